/-! THE FACE: read of the class; lookat -/
theorem lgc {n : Nat} (h : n < 2 ^ 63) : lg_cmp (nL n) (0 : Int64) = 0 ↔ n = 0 := by
  constructor
  · intro a
    unfold lg_cmp at a
    by_cases e : nL n = 0
    · have h3 := congrArg (fun y => y.toBitVec.toNat) e
      have h4 : (BitVec.ofNat 64 n).toNat = 0 := h3
      rw [BitVec.toNat_ofNat] at h4
      omega
    · exfalso
      revert a
      split
      · decide
      · first | decide | (split <;> first | decide | exact absurd (by assumption) e)
  · intro a
    rw [a]
    decide
theorem fdN_inv {α : Type} {f : Nat → α → α} {J : α → Prop} : ∀ {n : Nat} {b : α}, (∀ k, k < n → ∀ b, J b → J (f k b)) → J b → J (fdN f n b)
  | 0, _, _, h0 => h0
  | n + 1, _, h, h0 => h n (by omega) _ (fdN_inv (fun k hk => h k (by omega)) h0)
def srJ (st : Nat × (Nat × Nat × Nat) × (Nat → Nat → Bool)) : Prop := (st.1 = 0 → ∀ k v, st.2.2 k v = false) ∧ (¬ st.1 = 0 → ∃ v, v < 41 ∧ st.2.2 0 v = true)
theorem srch_inv {mk : MKT} {e : Int32} {fr lk : Nat} (hfr : fr < 2 ^ 29) (hlk : 0 < lk) : ((srch mk e fr lk).1 = 0 → ∀ k v, (srch mk e fr lk).2.2 k v = false) ∧ (¬ (srch mk e fr lk).1 = 0 → ∃ v, v < 41 ∧ (srch mk e fr lk).2.2 0 v = true) := by
  have key : srJ (srch mk e fr lk) := by
    unfold srch srP
    refine fdN_inv (J := srJ) (fun i hi b hb => ?_) ⟨fun _ _ _ => rfl, fun a => absurd rfl a⟩
    unfold srH
    refine fdN_inv (J := srJ) (fun h hh b hb => ?_) hb
    unfold srO
    refine fdN_inv (J := srJ) (fun o ho b hb => ?_) hb
    unfold stq
    split
    · refine ⟨fun a => absurd a (by dsimp only; omega), fun _ => ⟨hvN fr (i + 2) h o, ?_, ?_⟩⟩
      · have := (hgt_ex (t := fr) (p := i + 2) (h := h) (o := o) (by omega) (by omega) (by omega) (by omega) ho).1
        omega
      · simp [hlk]
    · exact hb
  exact key
def bkF (f : Nat → Nat) : Nat → Nat
  | 0 => 0
  | k + 1 => if f (k + 1) ≤ f (bkF f k) then bkF f k else k + 1
theorem bkF_le (f : Nat → Nat) : ∀ k, bkF f k ≤ k ∧ f 0 ≤ f (bkF f k)
  | 0 => ⟨Nat.le_refl _, Nat.le_refl _⟩
  | k + 1 => by
    obtain ⟨h1, h2⟩ := bkF_le f k
    unfold bkF
    split
    · exact ⟨by omega, h2⟩
    · exact ⟨Nat.le_refl _, by omega⟩
def fLook (m : MO) (mk : MKT) (row : List Int32) (e : Int32) : Int32 × List Int32 :=
  if inb e 21 = true then
    if (srch mk e (cc (m 64)) 24).1 = 0 then (-2, row)
    else (nI (cc (m 64) + bkF (fun k => cb ((srch mk e (cc (m 64)) 24).2.2 k) 41) 23), [nI (cb ((srch mk e (cc (m 64)) 24).2.2 (bkF (fun k => cb ((srch mk e (cc (m 64)) 24).2.2 k) 41) 23)) 41)])
  else (-1, row)
section
variable {G : rt_G} {d : Nat} {Q : rt_Q} {I : rt_I} {L : rt_L} {r B mg : Nat} {s : SV} {m : MO} {us : List MO} {kp : Nat → Option MO} {mk : MKT} {row : List Int32} {tx : TXT}
theorem XI.f38 {M : rt_I} (h : XI s m us kp mk row tx I) (hF : F38 M I) : XI s m us kp mk row tx M := h.q (hF.1.mono (by decide)) (by rw [hF.1 20 (by decide)]) hF.2 (h.2.2.2.2.2.1.fr (hF.1 42 (by decide)) (hF.1 43 (by decide)))
theorem fX_read {e t : Int32} (h : XI s m us kp mk row tx I) (h10 : mk.1 ≤ 10)
    (hQ : ∀ M L', XI s m us kp mk (fRead mk row e t).2 tx M → (∀ c, 108 ≤ c → M c = I c) → Q (fRead mk row e t).1 M L' r) : rt_Call G (d + 3) kX11_read [.ref 0, .int e, .int t] I L r Q := by
  unfold fRead at hQ
  have hno : ¬ (inb e 21 = true ∧ inb t 1000 = true) → Q (-1) I L r := by
    intro q
    rw [if_neg q] at hQ
    exact hQ I L h (fun _ _ => rfl)
  refine v_X11_read _ _ _ _ _ (sX3_isError (fun z1 => ⟨fun q => absurd q (by decide), fun _ => sX3_isTime (fun z2 => ⟨fun _ => ?_, fun q => absurd q (by decide)⟩) (fun z2 => ⟨fun q => absurd rfl q, fun _ => hno (fun q => z2 q.2)⟩)⟩) (fun z1 => ⟨fun _ => hno (fun q => z1 q.1), fun q => absurd rfl q⟩))
  rw [if_pos ⟨z1, z2⟩] at hQ
  obtain ⟨n, hn, rfl⟩ := inr_big (by omega) (inb_iff.mp z2)
  rw [cc_nI (by omega)] at hQ
  refine wX3_search (fr := n) (lk := 1) h.2.2.2.2.1 h10 (by omega) (by omega) rfl rfl (fun M1 L1 hF hS hlt => gX_clear (h.f38 hF) (fun M2 h2 f2 => ?_))
  have i2 : ∀ c, 108 ≤ c → M2 c = I c := fun c hc => (f2.hi (by decide) c hc).trans (hF.1.hi (by decide) c hc)
  generalize srch mk e n 1 = st at *
  rw [hS.2 0 (by omega)]
  have hb : btn (st.2.2 0) 41 < 2 ^ 41 := btn_lt 41
  rcases rdF_ex (st.2.2 0) 41 (by omega) with ⟨q1, q2⟩ | ⟨i, j, hi, hj, q1, q2, q3, q4, q5⟩
  · have hz : btn (st.2.2 0) 41 = 0 := by
      apply Nat.eq_of_testBit_eq
      intro i
      rw [btn_bit, Nat.zero_testBit]
      by_cases hi : i < 41
      · rw [q2 i hi, Bool.and_false]
      · simp [hi]
    have hc := (lgc (n := btn (st.2.2 0) 41) (by omega)).mpr hz
    rw [q1] at hQ
    refine ⟨fun z => absurd hc z, fun _ => gX_add h2 (by simp) (fun M3 h3 f3 => ?_)⟩
    refine ⟨fun z => absurd hc z, fun _ => gX_add h3 (by simp) (fun M4 h4 f4 => ?_)⟩
    exact sJ13_bitCount rfl (by omega) (hQ M4 L1 h4 (fun c hc => (f4.hi (by decide) c hc).trans ((f3.hi (by decide) c hc).trans (i2 c hc))))
  · have bit : ∀ k, (btn (st.2.2 0) 41).testBit k = (decide (k < 41) && st.2.2 0 k) := fun k => btn_bit 41
    have hnz : ¬ btn (st.2.2 0) 41 = 0 := fun a => by
      have := bit i
      rw [a, Nat.zero_testBit, q2] at this
      simp at this; omega
    have hc : ¬ lg_cmp (nL (btn (st.2.2 0) 41)) 0 = 0 := mt (lgc (by omega)).mp hnz
    have hlo : 2 ^ j ≤ btn (st.2.2 0) 41 := Nat.ge_two_pow_of_testBit (by rw [bit, q3]; simp [hj])
    have hhi : btn (st.2.2 0) 41 < 2 ^ (j + 1) := by
      apply Nat.lt_pow_two_of_testBit
      intro k hk
      rw [bit]
      by_cases h41 : k < 41
      · rw [q5 k (by omega) h41, Bool.and_false]
      · simp [h41]
    rw [q1] at hQ
    refine ⟨fun _ => sJ13_tz (j := i) rfl (by omega) (by omega) (by rw [bit, q2]; simp [hi]) (fun k hk => by rw [bit, q4 k hk, Bool.and_false]) (gX_add h2 (by simp) (fun M3 h3 f3 => ?_)), fun z => absurd z hc⟩
    refine ⟨fun _ => sJ13_lz (j := j) rfl (by omega) hlo hhi ?_, fun z => absurd z hc⟩
    rw [show (63 : Int32) - nI (63 - j) = nI j by rw [show (63 : Int32) = nI 63 from rfl, show nI 63 - nI (63 - j) = nI (63 - (63 - j)) from pk_sub (by omega), show 63 - (63 - j) = j by omega]]
    refine gX_add h3 (by simp) (fun M4 h4 f4 => ?_)
    exact sJ13_bitCount rfl (by omega) (hQ M4 L1 h4 (fun c hc => (f4.hi (by decide) c hc).trans ((f3.hi (by decide) c hc).trans (i2 c hc))))
theorem fX_lookat {e : Int32} (h : XI s m us kp mk row tx I) (h10 : mk.1 ≤ 10) (hm : mok s B m) (hB : B < 2 ^ 29)
    (hQ : ∀ M L', XI s m us kp mk (fLook m mk row e).2 tx M → (∀ c, 108 ≤ c → M c = I c) → Q (fLook m mk row e).1 M L' r) : rt_Call G (d + 3) kX11_lookat [.ref 0, .int e] I L r Q := by
  unfold fLook at hQ
  obtain ⟨t, ht, e64, -⟩ := hm.1
  rw [e64, cc_nI (by omega)] at hQ
  refine v_X11_lookat _ _ _ _ (sX3_isError (fun hz => ⟨fun _ => ?_, fun q => absurd q (by decide)⟩) (fun hz => ⟨fun q => absurd rfl q, fun _ => ?_⟩))
  · rw [if_pos hz] at hQ
    have h16 : I 16 0 = nI t := h.2.1.1.trans e64
    rw [h16]
    refine wX3_search (fr := t) (lk := 24) h.2.2.2.2.1 h10 (by omega) (by omega) rfl rfl (fun M1 L1 hF hS hlt => ?_)
    have h1 := h.f38 hF
    have i1 : ∀ c, 108 ≤ c → M1 c = I c := hF.1.hi (by decide)
    generalize srch mk e t 24 = st at *
    have hzz : nI st.1 = 0 ↔ st.1 = 0 := nI_eq (b := 0) (by omega) (by omega)
    refine ⟨fun z => ?_, fun z => ?_⟩
    · rw [if_neg (mt hzz.mpr z)] at hQ
      refine rt_loop (P := fun k => rt_AW G (d + 3) kX11_lookat Q 39 [some (.ref 0), none, some (.int (nI (bkF (fun k => cb (st.2.2 k) 41) k))), some (.int (nI (k + 1)))] [] M1 L1 r) 23 ?_ ?_
      · have hb := bkF_le (fun k => cb (st.2.2 k) 41) 23
        refine v_X11_lookat_39 _ _ _ _ _ ⟨fun _ => gX_clear h1 (fun M2 h2 f2 => ⟨vp_nI rfl (by omega) (by omega), ?_⟩), fun z => absurd (by decide) z⟩
        rw [cl (n := bkF (fun k => cb (st.2.2 k) 41) 23) rfl (by omega), hS.2 _ (by omega)]
        refine sJ13_bitCount rfl (by omega) (gX_add h2 (by simp) (fun M3 h3 f3 => ?_))
        rw [show M3 16 0 = nI t from h3.2.1.1.trans e64, nI_add]
        exact hQ M3 L1 h3 (fun c hc => (f3.hi (by decide) c hc).trans ((f2.hi (by decide) c hc).trans (i1 c hc)))
      · intro k hk ih
        have hb := bkF_le (fun k => cb (st.2.2 k) 41) k
        have c1 := cb_le (st.2.2 (k + 1)) 41
        have c2 := cb_le (st.2.2 (bkF (fun k => cb (st.2.2 k) 41) k)) 41
        have e1 : bkF (fun k => cb (st.2.2 k) 41) (k + 1) = if cb (st.2.2 (k + 1)) 41 ≤ cb (st.2.2 (bkF (fun k => cb (st.2.2 k) 41) k)) 41 then bkF (fun k => cb (st.2.2 k) 41) k else k + 1 := rfl
        rw [e1] at ih
        refine v_X11_lookat_39 _ _ _ _ _ ⟨fun z => absurd ((n_le (a := 24) (b := k + 1) rfl rfl (by omega) (by omega)).mp z) (by omega), fun _ => ⟨vp_nI rfl (by omega) (by omega), ?_⟩⟩
        rw [cl (n := k + 1) rfl (by omega), cl (n := bkF (fun k => cb (st.2.2 k) 41) k) rfl (by omega), hS.2 (k + 1) (by omega)]
        refine sJ13_bitCount rfl (by omega) ⟨vp_nI rfl (by omega) (by omega), ?_⟩
        rw [hS.2 (bkF (fun k => cb (st.2.2 k) 41) k) (by omega)]
        refine sJ13_bitCount rfl (by omega) ⟨fun z => ?_, fun z => ?_⟩
        · rw [if_pos ((nI_leI (by omega) (by omega)).mp z)] at ih
          rw [nI_1]; exact ih
        · rw [if_neg (mt (nI_leI (by omega) (by omega)).mpr z)] at ih
          rw [nI_1]; exact ih
    · rw [if_pos (hzz.mp z)] at hQ
      exact hQ M1 L1 h1 i1
  · rw [if_neg hz] at hQ
    exact hQ I L h (fun _ _ => rfl)
theorem fM_lookat {e : Int32} (h : MI B s m us kp mk row tx I) (h10 : mk.1 ≤ 10) (hm : mok s B m) (hB : B < 2 ^ 29)
    (hQ : ∀ M r', MI B s m us kp mk (fLook m mk row e).2 tx M → Lo M I → M 108 14 = 0 → Q (fLook m mk row e).1 M L r') : rt_Call G (d + 3) kX12_lookat [.ref 108, .int e] I L r Q := by
  have h0 := h.t0
  have hLJ : Lo (rt_u I 108 14 0) I := Lo.of u14F (by decide)
  unfold fLook at hQ
  obtain ⟨t, ht, e64, -⟩ := hm.1
  rw [e64, cc_nI (by omega)] at hQ
  refine v_X12_lookat _ _ _ _ (sX12_in (fun z1 => ⟨fun _ => ?_, fun q => absurd q (by decide)⟩) (fun z1 => ⟨fun q => absurd rfl q, fun _ => ?_⟩))
  · rw [if_pos ((inbD (k := 20) (by omega)).mp z1)] at hQ
    rw [show rt_u I 108 14 0 109 64 = nI t from h0.2.1.1.trans e64]
    refine wX12_findTold (fr := t) (lk := 24) h0.mm h10 (by omega) (by omega) rfl rfl (fun M1 hF hS => ?_)
    have h1 := h0.f130 hF
    have l1 : Lo M1 I := (Lo.of hF (by decide)).trans hLJ
    have a1 : M1 108 14 = 0 := by rw [hF 108 (by decide)]; exact rt_u_at
    obtain ⟨v1, v2⟩ := srch_inv (mk := mk) (e := e) (fr := t) (lk := 24) (by omega) (by omega)
    generalize srch mk e t 24 = st at *
    refine rt_loop (P := fun k => rt_AW G (d + 3) kX12_lookat Q 35 [some (.ref 108), none, some (.int (nI (bkF (fun k => cb (st.2.2 k) 41) k))), some (.int (nI (k + 1)))] [] M1 L r) 23 ?_ ?_
    · have hb := bkF_le (fun k => cb (st.2.2 k) 41) 23
      have c2 := cb_le (st.2.2 (bkF (fun k => cb (st.2.2 k) 41) 23)) 41
      have hzz : nI (cb (st.2.2 (bkF (fun k => cb (st.2.2 k) 41) 23)) 41) = 0 ↔ cb (st.2.2 (bkF (fun k => cb (st.2.2 k) 41) 23)) 41 = 0 := nI_eq (b := 0) (by omega) (by omega)
      have hiff : cb (st.2.2 (bkF (fun k => cb (st.2.2 k) 41) 23)) 41 = 0 ↔ st.1 = 0 := by
        constructor
        · intro a
          by_cases q : st.1 = 0
          · exact q
          · exfalso
            obtain ⟨v, hv, hv2⟩ := v2 q
            have hlt : cb (fun _ => false) 41 < cb (st.2.2 0) 41 := cb_lt (q := v) hv (fun _ _ a => by cases a) rfl hv2
            have h2 := hb.2
            omega
        · intro a
          have hz2 : cb (st.2.2 (bkF (fun k => cb (st.2.2 k) 41) 23)) 41 = cb (fun _ => false) 41 := cb_congr (fun k _ => v1 a _ k)
          rw [hz2]; decide
      refine v_X12_lookat_35 _ _ _ _ _ ⟨fun _ => wX12_toldAt (k := bkF (fun k => cb (st.2.2 k) 41) 23) hS rfl (by omega) ⟨fun z => ?_, fun z => ?_⟩, fun z => absurd (by decide) z⟩
      · rw [if_neg (mt (fun a => hzz.mpr (hiff.mpr a)) z)] at hQ
        have hS2 : FS st (rt_u M1 108 13 0) := fun k hk v hv => by rw [rt_u_ne (by decide)]; exact hS k hk v hv
        refine wX12_toldAt (k := bkF (fun k => cb (st.2.2 k) 41) 23) hS2 rfl (by omega) (gM_tel2 h1.c13 (by simp) (fun M3 h3 f3 g3 => ?_))
        rw [show M3 109 64 = nI t from h3.2.1.1.trans e64, nI_add]
        exact hQ M3 r h3 ((Lo.of f3 (by decide)).trans (c13L.trans l1)) ((g3 14 (by decide)).trans ((rt_u1 (by decide)).trans a1))
      · rw [if_pos (hiff.mp (hzz.mp z))] at hQ
        exact hQ M1 r h1 l1 a1
    · intro k hk ih
      have hb := bkF_le (fun k => cb (st.2.2 k) 41) k
      have c1 := cb_le (st.2.2 (k + 1)) 41
      have c2 := cb_le (st.2.2 (bkF (fun k => cb (st.2.2 k) 41) k)) 41
      have e1 : bkF (fun k => cb (st.2.2 k) 41) (k + 1) = if cb (st.2.2 (k + 1)) 41 ≤ cb (st.2.2 (bkF (fun k => cb (st.2.2 k) 41) k)) 41 then bkF (fun k => cb (st.2.2 k) 41) k else k + 1 := rfl
      rw [e1] at ih
      refine v_X12_lookat_35 _ _ _ _ _ ⟨fun z => absurd ((n_le (a := 24) (b := k + 1) rfl rfl (by omega) (by omega)).mp z) (by omega), fun _ => wX12_toldAt (k := k + 1) hS rfl (by omega) (wX12_toldAt (k := bkF (fun k => cb (st.2.2 k) 41) k) hS rfl (by omega) ⟨fun z => ?_, fun z => ?_⟩)⟩
      · rw [if_pos ((nI_leI (by omega) (by omega)).mp z)] at ih
        rw [nI_1]; exact ih
      · rw [if_neg (mt (nI_leI (by omega) (by omega)).mpr z)] at ih
        rw [nI_1]; exact ih
  · rw [if_neg (mt (inbD (k := 20) (by omega)).mpr z1)] at hQ
    exact hQ _ _ h0 hLJ rt_u_at
end
