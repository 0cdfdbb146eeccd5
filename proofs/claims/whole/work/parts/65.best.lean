/-! CARTS TO COME: best -/
def bsF (s : SV) (m : MO) (w l : Nat) (free : Bool) : Nat → Int32 × Int32 × Int32
  | 0 => (-2, 1000000, 1000000)
  | t + 1 => if tht s m w t = true ∧ (trq s w (m 64 + nI t) free l 0).1 = true ∧ ((trq s w (m 64 + nI t) free l 0).2.2 < (bsF s m w l free t).2.1 ∨ ((trq s w (m 64 + nI t) free l 0).2.2 = (bsF s m w l free t).2.1 ∧ nI t + (trq s w (m 64 + nI t) free l 0).2.1 < (bsF s m w l free t).2.2))
    then (nI t, (trq s w (m 64 + nI t) free l 0).2.2, nI t + (trq s w (m 64 + nI t) free l 0).2.1) else bsF s m w l free t
theorem bsF_1 (s : SV) (m : MO) (w l : Nat) (free : Bool) : ∀ t, (bsF s m w l free t).1 = -2 ∨ ∃ j, j < t ∧ (bsF s m w l free t).1 = nI j
  | 0 => Or.inl rfl
  | t + 1 => by
    have ih := bsF_1 s m w l free t
    unfold bsF
    split
    · exact Or.inr ⟨t, by omega, rfl⟩
    · exact ih.imp id (fun ⟨j, hj, e⟩ => ⟨j, by omega, e⟩)
def fBest (s : SV) (m : MO) (row : List Int32) (x y : Int32) : Int32 × List Int32 :=
  if (inb x s.nc && inb y s.nr) = true then
    if m (cc x * 8) = -1 then (-1, row)
    else if fe m (cc y) (m (cc x * 8)) = -1 then (-3, row)
    else if (bsF s m (cc y) (cc (oT s m (cc x) (cc y))) (decide (m (cc x * 8 + 5) = 0)) 61).1 = -2 then (-2, row)
    else ((bsF s m (cc y) (cc (oT s m (cc x) (cc y))) (decide (m (cc x * 8 + 5) = 0)) 61).1, [(bsF s m (cc y) (cc (oT s m (cc x) (cc y))) (decide (m (cc x * 8 + 5) = 0)) 61).2.1, (bsF s m (cc y) (cc (oT s m (cc x) (cc y))) (decide (m (cc x * 8 + 5) = 0)) 61).2.2])
  else (-1, row)
theorem lt60 {k : Nat} (h : k < 2 ^ 31) : (60 : Int32) < nI k ↔ 60 < k := n_lt (a := 60) (b := k) rfl rfl (by omega) h
section
variable {G : rt_G} {d : Nat} {Q : rt_Q} {I : rt_I} {L : rt_L} {r B : Nat} {s : SV} {m : MO} {us : List MO} {kp : Nat → Option MO} {mk : MKT} {row : List Int32} {tx : TXT}
theorem fX_best {x y : Int32} (h : XI s m us kp mk row tx I) (hk : sok s) (hm : mok s B m)
    (hQ : ∀ M, XI s m us kp mk (fBest s m row x y).2 tx M → (∀ c, 108 ≤ c → M c = I c) → Q (fBest s m row x y).1 M L r) : rt_Call G (d + 5) kX11_best [.ref 0, .int x, .int y] I L r Q := by
  have h5 := hk.2.2.1
  have h12 := hk.2.1
  have h8 := hk.1
  unfold fBest at hQ
  have hno : ¬ (inb x s.nc && inb y s.nr) = true → Q (-1) I L r := by
    intro z
    rw [if_neg z] at hQ
    exact hQ I h (fun _ _ => rfl)
  refine v_X11_best _ _ _ _ _ (sX2_hasCart h.1.2.2.1 (fun z => ⟨fun q => absurd q (by decide), fun _ => sX2_hasRoad h.1.2.1 (fun z2 => ⟨fun q => absurd q (by decide), fun _ => ?_⟩) (fun z2 => ⟨fun _ => hno (by rw [Bool.and_eq_true, inb_iff, inb_iff]; exact fun q => z2 q.2), fun q => absurd rfl q⟩)⟩) (fun z => ⟨fun _ => hno (by rw [Bool.and_eq_true, inb_iff]; exact fun q => z q.1), fun q => absurd rfl q⟩))
  rw [if_pos (by rw [Bool.and_eq_true, inb_iff, inb_iff]; exact ⟨z, z2⟩)] at hQ
  obtain ⟨c, hc, rfl⟩ := (inr_iff (by omega)).mp z
  obtain ⟨w, hw, rfl⟩ := (inr_iff (by omega)).mp z2
  rw [cc_nI (by omega), cc_nI (by omega)] at hQ
  refine sX4_of (j := 0) rfl rfl (by omega) ?_
  rw [xm_0 hk h.2.1 hc]
  refine ⟨fun q0 => sX4_of (j := 0) rfl rfl (by omega) ?_, fun q0 => ?_⟩
  · rw [if_neg q0] at hQ
    rw [xm_0 hk h.2.1 hc]
    refine wX4_farEnd h.2.1 hk rfl hw ⟨fun q1 => sX4_of (j := 4) rfl rfl (by omega) ?_, fun q1 => ?_⟩
    · rw [if_neg q1] at hQ
      rw [xm_c hk h.2.1 hc (by omega)]
      obtain ⟨t, ht, e64, hco⟩ := hm.1
      obtain ⟨q5, hq⟩ := hco c hc
      rcases hq with ⟨p, hp, e0, -⟩ | ⟨e0, -⟩
      · have q1' := q1
        rw [e0] at q1'
        obtain ⟨q, hq, f1, f2⟩ := fe_ok hk (hm.2 w hw) q1'
        have hT : oT s m c w = s.tkn w p q (m (c * 8 + 4)) := by
          unfold oT
          rw [e0, f1, cc_nI (by omega), cc_nI (by omega)]
        obtain ⟨l, l1, l20, el⟩ := tkn_ex s w p q (m (c * 8 + 4))
        have hcl : cc (oT s m c w) = l := by rw [hT, el]; exact cc_nI (by omega)
        rw [hcl] at hQ
        rw [e0, f1]
        refine wX9_turnsBy h.1 hk rfl hw rfl hp rfl hq (fun M hF => sX4_of (j := 5) rfl rfl (by omega) ?_)
        have hM := h.q (hF.mono (by decide)) (by rw [hF 20 (by decide)]) (by rw [hF 38 (by decide)]) (h.2.2.2.2.2.1.fr (hF 42 (by decide)) (hF 43 (by decide)))
        have hMhi : ∀ c, 108 ≤ c → M c = I c := hF.hi (by decide)
        rw [xm_c hk hM.2.1 hc (by omega), el]
        have key : ∀ g k M, g + k = 61 → XI s m us kp mk row tx M → (∀ c, 108 ≤ c → M c = I c) → rt_AW G (d + 5) kX11_best Q 132 [some (.ref 0), none, some (.int (nI w)), none, none, some (.int (nI l)), some (.int (m (c * 8 + 5))), some (.int (bsF s m w l (decide (m (c * 8 + 5) = 0)) k).1), some (.int (bsF s m w l (decide (m (c * 8 + 5) = 0)) k).2.1), some (.int (bsF s m w l (decide (m (c * 8 + 5) = 0)) k).2.2), some (.int (nI k)), none, none, none] [] M L r := by
          intro g
          induction g with
          | zero =>
            intro k M hg hM hMhi
            obtain rfl : k = 61 := by omega
            have hb := bsF_1 s m w l (decide (m (c * 8 + 5) = 0)) 61
            generalize bsF s m w l (decide (m (c * 8 + 5) = 0)) 61 = b at *
            refine v_X11_best_132 _ _ _ _ _ _ _ _ _ _ ⟨fun _ => ⟨fun z => ?_, fun z => ?_⟩, fun z => absurd (by decide) z⟩
            · have e : b.1 = -2 := hb.elim id (fun ⟨j, hj, e⟩ => absurd z (by rw [e]; exact n_neg (by omega)))
              rw [if_pos e] at hQ
              rw [e]
              exact hQ M hM hMhi
            · rw [if_neg (fun e => z (by rw [e]; decide))] at hQ
              refine gX_clear hM (fun M1 h1 f1 => gX_add h1 (by simp) (fun M2 h2 f2 => gX_add h2 (by simp) (fun M3 h3 f3 => ?_)))
              exact hQ M3 h3 (fun c hc => ((f3.trans (f2.trans f1)).hi (by decide) c hc).trans (hMhi c hc))
          | succ g ih =>
            intro k M hg hM hMhi
            have e1 : ∀ b, bsF s m w l (decide (m (c * 8 + 5) = 0)) k = b → bsF s m w l (decide (m (c * 8 + 5) = 0)) (k + 1) = if tht s m w k = true ∧ (trq s w (m 64 + nI k) (decide (m (c * 8 + 5) = 0)) l 0).1 = true ∧ ((trq s w (m 64 + nI k) (decide (m (c * 8 + 5) = 0)) l 0).2.2 < b.2.1 ∨ ((trq s w (m 64 + nI k) (decide (m (c * 8 + 5) = 0)) l 0).2.2 = b.2.1 ∧ nI k + (trq s w (m 64 + nI k) (decide (m (c * 8 + 5) = 0)) l 0).2.1 < b.2.2)) then (nI k, (trq s w (m 64 + nI k) (decide (m (c * 8 + 5) = 0)) l 0).2.2, nI k + (trq s w (m 64 + nI k) (decide (m (c * 8 + 5) = 0)) l 0).2.1) else b := fun b hb => by rw [← hb]; rfl
            have ih2 := fun M => ih (k + 1) M (by omega)
            generalize hb : bsF s m w l (decide (m (c * 8 + 5) = 0)) k = b at *
            rw [e1 b rfl] at ih2
            refine v_X11_best_132 _ _ _ _ _ _ _ _ _ _ ⟨fun z => absurd ((lt60 (by omega)).mp z) (by omega), fun _ => ?_⟩
            rw [hM.2.1.1]
            simp only [nI_1]
            refine wX9_isThere hM.1 hk rfl hw (fun t => ⟨fun q => absurd q (by decide), fun _ => sX9_travels hM.1 hk rfl hw rfl l1 l20 (fun M2 hT g7 g8 => ?_)⟩) (fun t => ⟨fun _ => ?_, fun q => absurd rfl q⟩)
            · have h2 := hM.tf hT
              have hhi2 : ∀ c, 108 ≤ c → M2 c = I c := fun c hc => (hT.1.hi (by decide) c hc).trans (hMhi c hc)
              have ih3 := ih2 M2 h2 hhi2
              rw [g7, g8]
              generalize trq s w (m 64 + nI k) (decide (m (c * 8 + 5) = 0)) l 0 = q at *
              refine ⟨fun z => ⟨fun z1 => ?_, fun z1 => ⟨fun z2 => ?_, fun z2 => ⟨fun z3 => ?_, fun z3 => ?_⟩⟩⟩, fun z => ?_⟩
              · rw [if_pos ⟨t, b2i_t.mp z, Or.inl z1⟩] at ih3; exact ih3
              · rw [if_neg (fun a => a.2.2.elim z1 (fun y => z2 y.1))] at ih3; exact ih3
              · rw [if_neg (fun a => a.2.2.elim z1 (fun y => absurd y.2 (Int32.not_lt.mpr z3)))] at ih3; exact ih3
              · rw [if_pos ⟨t, b2i_t.mp z, Or.inr ⟨z2, Int32.not_le.mp z3⟩⟩] at ih3; exact ih3
              · rw [if_neg (fun a => by rw [b2i_z.mp z] at a; exact absurd a.2.1 (by decide))] at ih3; exact ih3
            · have ih3 := ih2 M hM hMhi
              rw [if_neg (fun a => by rw [show tht s m w k = false from t] at a; exact absurd a.1 (by decide))] at ih3
              exact ih3
        exact key 61 0 M (by omega) hM hMhi
      · exact absurd e0 q0
    · rw [if_pos q1] at hQ
      exact hQ I h (fun _ _ => rfl)
  · rw [if_pos q0] at hQ
    exact hQ I h (fun _ _ => rfl)
def bmx (x : Int32) : Int32 := if x = -2 then -1 else x
theorem fM_best {x y : Int32} (h : MI B s m us kp mk row tx I) (hk : sok s) (hm : mok s B m)
    (hQ : ∀ M r', MI B s m us kp mk (fBest s m row x y).2 tx M → Lo M I → M 108 14 = 0 → Q (fBest s m row x y).1 M L r') : rt_Call G (d + 132) kX12_best [.ref 108, .int x, .int y] I L r Q := by
  have h5 := hk.2.2.1
  have h12 := hk.2.1
  have h8 := hk.1
  have h0 := h.t0
  have hLJ : Lo (rt_u I 108 14 0) I := Lo.of u14F (by decide)
  unfold fBest at hQ
  have hno : ¬ (inb x s.nc && inb y s.nr) = true → Q (-1) (rt_u I 108 14 0) L r := by
    intro z
    rw [if_neg z] at hQ
    exact hQ _ _ h0 hLJ rt_u_at
  refine v_X12_best _ _ _ _ _ (sX12_isCart h0.1.2.2.1 (by omega) (fun z => ⟨fun q => absurd q (by decide), fun _ => sX12_isRoad h0.1.2.1 (by omega) (fun z2 => ⟨fun q => absurd q (by decide), fun _ => ?_⟩) (fun z2 => ⟨fun _ => hno (by rw [Bool.and_eq_true, inb_iff, inb_iff]; exact fun q => z2 q.2), fun q => absurd rfl q⟩)⟩) (fun z => ⟨fun _ => hno (by rw [Bool.and_eq_true, inb_iff]; exact fun q => z q.1), fun q => absurd rfl q⟩))
  rw [if_pos (by rw [Bool.and_eq_true, inb_iff, inb_iff]; exact ⟨z, z2⟩)] at hQ
  obtain ⟨c, hc, rfl⟩ := (inr_iff (by omega)).mp z
  obtain ⟨w, hw, rfl⟩ := (inr_iff (by omega)).mp z2
  rw [cc_nI (by omega), cc_nI (by omega)] at hQ
  simp (disch := omega) only [n8, na4, vpT, clT, true_and]
  rw [mm_0 h0.2.1 hc]
  refine ⟨fun q0 => ?_, fun q0 => ?_⟩
  · rw [if_neg q0] at hQ
    refine wX12_beyond h0.2.1 hk rfl hw ⟨fun q1 => ?_, fun q1 => ?_⟩
    · rw [if_neg q1] at hQ
      rw [mm_0 h0.2.1 hc, mm_c h0.2.1 hc (j := 4) (by omega)]
      obtain ⟨t, ht, e64, hco⟩ := hm.1
      obtain ⟨q5, hq⟩ := hco c hc
      rcases hq with ⟨p, hp, e0, -⟩ | ⟨e0, -⟩
      · have q1' := q1
        rw [e0] at q1'
        obtain ⟨q, hq, f1, f2⟩ := fe_ok hk (hm.2 w hw) q1'
        have hT : oT s m c w = s.tkn w p q (m (c * 8 + 4)) := by
          unfold oT
          rw [e0, f1, cc_nI (by omega), cc_nI (by omega)]
        obtain ⟨l, l1, l20, el⟩ := tkn_ex s w p q (m (c * 8 + 4))
        have hcl : cc (oT s m c w) = l := by rw [hT, el]; exact cc_nI (by omega)
        rw [hcl] at hQ
        rw [e0, f1]
        refine wX12_turnsOf h0.1 hk rfl hw rfl hp rfl hq (fun M r' hT => ?_)
        have hM := h0.q (hT.1.mono (by decide)) (hT.2.1.mono (by decide)) hT.2.2 (h0.2.2.2.2.2.1.fr (hT.2.1 13 (by decide)) (hT.1 115 (by decide)))
        have hMhi : Lo M I := (Lo.of hT.1 (by decide)).trans hLJ
        have hM14 : M 108 14 = 0 := by rw [hT.2.1 14 (by decide)]; exact rt_u_at
        rw [el]
        have key : ∀ g k M, g + k = 61 → MI B s m us kp mk row tx M → Lo M I → M 108 14 = 0 → rt_AW G (d + 132) kX12_best Q 105 [some (.ref 108), none, some (.int (nI w)), some (.int (nI (c * 8))), none, some (.int (nI l)), some (.int (bmx (bsF s m w l (decide (m (c * 8 + 5) = 0)) k).1)), some (.int (bsF s m w l (decide (m (c * 8 + 5) = 0)) k).2.1), some (.int (bsF s m w l (decide (m (c * 8 + 5) = 0)) k).2.2), some (.int (nI k))] [] M L r' := by
          intro g
          induction g with
          | zero =>
            intro k M hg hM hMhi hM14
            obtain rfl : k = 61 := by omega
            have hb := bsF_1 s m w l (decide (m (c * 8 + 5) = 0)) 61
            generalize bsF s m w l (decide (m (c * 8 + 5) = 0)) 61 = b at *
            refine v_X12_best_105 _ _ _ _ _ _ _ _ _ _ ⟨fun _ => ⟨fun z => ?_, fun z => ?_⟩, fun z => absurd (by decide) z⟩
            · have e : ¬ b.1 = -2 := fun e => z (by unfold bmx; rw [if_pos e])
              rw [if_neg e] at hQ
              refine gM_tell hM.c13 (by simp) (fun M2 h2 l2 j2 => gM_tell h2 (by simp) (fun M3 h3 l3 j3 => ?_))
              rw [show bmx b.1 = b.1 from if_neg e]
              refine hQ M3 _ h3 (l3.trans (l2.trans (c13L.trans hMhi))) ?_
              rw [j3 14 (by decide), j2 14 (by decide), rt_u1 (by decide)]
              exact hM14
            · have e : b.1 = -2 := by
                rcases hb with e | ⟨j, hj, e⟩
                · exact e
                · exfalso
                  unfold bmx at z
                  rw [if_neg (fun a => absurd (show b.1 < 0 by rw [a]; decide) (by rw [e]; exact n_neg (by omega))), e] at z
                  exact n_ne1 (by omega) z
              rw [if_pos e] at hQ
              exact hQ M _ hM hMhi hM14
          | succ g ih =>
            intro k M hg hM hMhi hM14
            have e1 : ∀ b, bsF s m w l (decide (m (c * 8 + 5) = 0)) k = b → bsF s m w l (decide (m (c * 8 + 5) = 0)) (k + 1) = if tht s m w k = true ∧ (trq s w (m 64 + nI k) (decide (m (c * 8 + 5) = 0)) l 0).1 = true ∧ ((trq s w (m 64 + nI k) (decide (m (c * 8 + 5) = 0)) l 0).2.2 < b.2.1 ∨ ((trq s w (m 64 + nI k) (decide (m (c * 8 + 5) = 0)) l 0).2.2 = b.2.1 ∧ nI k + (trq s w (m 64 + nI k) (decide (m (c * 8 + 5) = 0)) l 0).2.1 < b.2.2)) then (nI k, (trq s w (m 64 + nI k) (decide (m (c * 8 + 5) = 0)) l 0).2.2, nI k + (trq s w (m 64 + nI k) (decide (m (c * 8 + 5) = 0)) l 0).2.1) else b := fun b hb => by rw [← hb]; rfl
            have ih2 := fun M => ih (k + 1) M (by omega)
            have hbk : bmx (nI k) = nI k := if_neg (fun a => absurd (show nI k < 0 by rw [a]; decide) (n_neg (by omega)))
            generalize hb : bsF s m w l (decide (m (c * 8 + 5) = 0)) k = b at *
            rw [e1 b rfl] at ih2
            have ride : ∀ (ch : Int32), (decide (m (c * 8 + 5) = 0) = true ↔ ch = 0) → tht s m w k = true → rt_Call G (d + 131) kX12_rides [.ref 108, .int (nI w), .int (nI k), .int (nI l), .int 0, .int ch] M L r' (fun v4 I4 L4 r4 => ((¬ v4 = 0 → ((b.2.1 < (I4 108 45) → rt_AW G (d + 132) kX12_best Q 105 [some (.ref 108), none, some (.int (nI w)), some (.int (nI (c * 8))), none, some (.int (nI l)), some (.int (bmx b.1)), some (.int b.2.1), some (.int b.2.2), some (.int (nI (k + 1)))] [] I4 L4 r4) ∧ (¬ b.2.1 < (I4 108 45) → ((¬ (I4 108 45) = b.2.1 → rt_AW G (d + 132) kX12_best Q 105 [some (.ref 108), none, some (.int (nI w)), some (.int (nI (c * 8))), none, some (.int (nI l)), some (.int (nI k)), some (.int (I4 108 45)), some (.int (nI k + (I4 108 44))), some (.int (nI (k + 1)))] [] I4 L4 r4) ∧ ((I4 108 45) = b.2.1 → ((nI k + (I4 108 44) < b.2.2 → rt_AW G (d + 132) kX12_best Q 105 [some (.ref 108), none, some (.int (nI w)), some (.int (nI (c * 8))), none, some (.int (nI l)), some (.int (nI k)), some (.int (I4 108 45)), some (.int (nI k + (I4 108 44))), some (.int (nI (k + 1)))] [] I4 L4 r4) ∧ (¬ nI k + (I4 108 44) < b.2.2 → rt_AW G (d + 132) kX12_best Q 105 [some (.ref 108), none, some (.int (nI w)), some (.int (nI (c * 8))), none, some (.int (nI l)), some (.int (bmx b.1)), some (.int b.2.1), some (.int b.2.2), some (.int (nI (k + 1)))] [] I4 L4 r4)))))))
           ∧ (v4 = 0 → rt_AW G (d + 132) kX12_best Q 105 [some (.ref 108), none, some (.int (nI w)), some (.int (nI (c * 8))), none, some (.int (nI l)), some (.int (bmx b.1)), some (.int b.2.1), some (.int b.2.2), some (.int (nI (k + 1)))] [] I4 L4 r4))) := by
              intro ch hch t
              refine sX12_rides hM.1 hk hM.2.1 rfl hw rfl l1 l20 hch (fun M2 hR g1 g2 g3 => ?_)
              have h2 := hM.rf hR
              have ih3 := ih2 M2 h2 ((Lo.of hR.1 (by decide)).trans hMhi) ((hR.2 14 (by decide)).trans hM14)
              rw [g3]
              generalize trq s w (m 64 + nI k) (decide (m (c * 8 + 5) = 0)) l 0 = q at *
              refine ⟨fun z => ⟨fun z1 => ?_, fun z1 => ⟨fun z2 => ?_, fun z2 => ⟨fun z3 => ?_, fun z3 => ?_⟩⟩⟩, fun z => ?_⟩
              · rw [if_neg (fun a => a.2.2.elim (fun y => absurd y (Int32.not_lt.mpr (Int32.le_of_lt z1))) (fun y => by rw [y.1] at z1; exact absurd (Int32.le_refl _) (Int32.not_le.mpr z1)))] at ih3; exact ih3
              · have hlt : q.2.2 < b.2.1 := by
                  have := Int32.not_lt.mp z1
                  exact Int32.not_le.mp (fun y => z2 (Int32.le_antisymm this y))
                rw [if_pos ⟨t, b2i_t.mp z, Or.inl hlt⟩] at ih3
                dsimp only at ih3
                rw [hbk] at ih3
                rw [g1 (b2i_t.mp z)]
                exact ih3
              · rw [g1 (b2i_t.mp z)] at z3 ⊢
                rw [if_pos ⟨t, b2i_t.mp z, Or.inr ⟨z2, z3⟩⟩] at ih3
                dsimp only at ih3
                rw [hbk] at ih3
                exact ih3
              · rw [g1 (b2i_t.mp z)] at z3
                rw [if_neg (fun a => a.2.2.elim (fun y => by rw [z2] at y; exact absurd (Int32.le_refl _) (Int32.not_le.mpr y)) (fun y => z3 y.2))] at ih3; exact ih3
              · rw [if_neg (fun a => by rw [b2i_z.mp z] at a; exact absurd a.2.1 (by decide))] at ih3; exact ih3
            refine v_X12_best_105 _ _ _ _ _ _ _ _ _ _ ⟨fun z => absurd ((lt60 (by omega)).mp z) (by omega), fun _ => ?_⟩
            simp only [nI_1]
            refine wX12_comesIn hM.1 hk hM.2.1 rfl hw (fun t => ⟨fun q => absurd q (by decide), fun _ => ?_⟩) (fun t => ⟨fun _ => ?_, fun q => absurd rfl q⟩)
            · simp (disch := omega) only [na5, vpT, clT, true_and]
              rw [mm_c hM.2.1 hc (j := 5) (by omega)]
              refine ⟨fun z => ride 0 ?_ t, fun z => ride 1 ?_ t⟩
              · rw [free_iff]
                exact ⟨fun _ => rfl, fun _ => q5.1.elim id (fun y => absurd y z)⟩
              · rw [free_iff, z]
            · have ih3 := ih2 M hM hMhi hM14
              rw [if_neg (fun a => by rw [show tht s m w k = false from t] at a; exact absurd a.1 (by decide))] at ih3
              exact ih3
        exact key 61 0 M (by omega) hM hMhi hM14
      · exact absurd e0 q0
    · rw [if_pos q1] at hQ
      exact hQ _ _ h0 hLJ rt_u_at
  · rw [if_pos q0] at hQ
    exact hQ _ _ h0 hLJ rt_u_at
end
