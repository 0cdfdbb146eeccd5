/-! MARKS: what the fitting rounds tell, model -/
def FS (st : Nat × (Nat × Nat × Nat) × (Nat → Nat → Bool)) (M : rt_I) : Prop := ∀ k, k < 24 → ∀ v, v < 41 → M 130 (41 * k + v) = b2i (st.2.2 k v)
section
variable {G : rt_G} {d : Nat} {Q : rt_Q} {I : rt_I} {L : rt_L} {r B mg : Nat} {s : SV} {m : MO} {us : List MO} {kp : Nat → Option MO} {mk : MKT} {row : List Int32} {tx : TXT}
theorem MMk.f130 {M : rt_I} (h : MMk mk I) (hF : Fr M I [130]) : MMk mk M := by
  unfold MMk
  rw [hF 108 (by decide), hF 129 (by decide)]
  exact h
theorem wX12_findTold {e : Int32} {fr lk : Nat} {x2 x3 : Int32} (hM : MMk mk I) (h10 : mk.1 ≤ 10) (hfr : fr < 2 ^ 29) (hlk : lk ≤ 24) (h2 : x2 = nI fr) (h3 : x3 = nI lk)
    (hQ : ∀ M, Fr M I [130] → FS (srch mk e fr lk) M → Q 0 M L r) : rt_Call G (d + 2) kX12_findTold [.ref 108, .int e, .int x2, .int x3] I L r Q := by
  subst h2 h3
  unfold srch at hQ
  refine v_X12_findTold _ _ _ _ _ _ (rt_loop (P := fun n => ∀ M, Fr M I [130] → (∀ j, j < n → M 130 j = 0) → rt_AW G (d + 2) kX12_findTold Q 3 [some (.ref 108), some (.int e), some (.int (nI fr)), some (.int (nI lk)), some (.int (nI n)), none, none, none] [] M L r) 984 ?_ ?_ I (Fr.refl _ _) (fun j hj => absurd hj (Nat.not_lt_zero _)))
  · intro M hF hz
    refine v_X12_findTold_3 _ _ _ _ _ _ _ ⟨fun _ => ?_, fun z => absurd (by decide) z⟩
    refine rt_loop (P := fun i => ∀ M, Fr M I [130] → FS (srP mk e fr lk i (0, (0, 0, 0), fun _ _ => false)) M → rt_AW G (d + 2) kX12_findTold Q 30 [some (.ref 108), some (.int e), some (.int (nI fr)), some (.int (nI lk)), some (.int (nI (i + 2))), none, none, none] [] M L r) 23 ?_ ?_ M hF (by rw [srP_0]; exact fun k hk v hv => hz _ (by omega))
    · intro M hF hS
      exact v_X12_findTold_30 _ _ _ _ _ _ _ ⟨fun _ => hQ M hF hS, fun z => absurd (by decide) z⟩
    · intro i hi ihP M hF hS
      have eP := srP_s mk e fr lk i (0, (0, 0, 0), fun _ _ => false)
      rw [eP] at ihP
      generalize srP mk e fr lk i (0, (0, 0, 0), fun _ _ => false) = sP at *
      refine v_X12_findTold_30 _ _ _ _ _ _ _ ⟨fun z => absurd ((n_lt (a := 24) (b := i + 2) rfl rfl (by omega) (by omega)).mp z) (by omega), fun _ => ?_⟩
      refine rt_loop (P := fun h => ∀ M, Fr M I [130] → FS (srH mk e fr lk (i + 2) h sP) M → rt_AW G (d + 2) kX12_findTold Q 40 [some (.ref 108), some (.int e), some (.int (nI fr)), some (.int (nI lk)), some (.int (nI (i + 2))), some (.int (nI h)), none, none] [] M L r) 41 ?_ ?_ M hF (by rw [srH_0]; exact hS)
      · intro M hF hS
        refine v_X12_findTold_40 _ _ _ _ _ _ _ _ ⟨fun _ => ?_, fun z => absurd (by decide) z⟩
        rw [nI_1]
        exact ihP M hF hS
      · intro h hh ihH M hF hS
        have eH := srH_s mk e fr lk (i + 2) h sP
        rw [eH] at ihH
        generalize srH mk e fr lk (i + 2) h sP = sH at *
        refine v_X12_findTold_40 _ _ _ _ _ _ _ _ ⟨fun z => absurd ((n_lt (a := 40) (b := h) rfl rfl (by omega) (by omega)).mp z) (by omega), fun _ => ?_⟩
        refine rt_loop (P := fun o => ∀ M, Fr M I [130] → FS (srO mk e fr lk (i + 2) h o sH) M → rt_AW G (d + 2) kX12_findTold Q 50 [some (.ref 108), some (.int e), some (.int (nI fr)), some (.int (nI lk)), some (.int (nI (i + 2))), some (.int (nI h)), some (.int (nI o)), none] [] M L r) (i + 2) ?_ ?_ M hF (by rw [srO_0]; exact hS)
        · intro M hF hS
          refine v_X12_findTold_50 _ _ _ _ _ _ _ _ _ ⟨fun _ => ?_, fun z => absurd (Int32.le_refl _) z⟩
          rw [nI_1]
          exact ihH M hF hS
        · intro o ho ihO M hF hS
          have eO := srO_s mk e fr lk (i + 2) h o sH
          rw [eO] at ihO
          generalize srO mk e fr lk (i + 2) h o sH = st at *
          refine v_X12_findTold_50 _ _ _ _ _ _ _ _ _ ⟨fun z => absurd ((n_le (a := i + 2) (b := o) rfl rfl (by omega) (by omega)).mp z) (by omega), fun _ => wX12_fitsBy (hM.f130 hF) h10 (by omega) (by omega) rfl rfl rfl (fun q => ⟨fun y => absurd y (by decide), fun _ => ?_⟩) (fun q => ⟨fun _ => ?_, fun y => absurd rfl y⟩)⟩
          · have eS : stq mk e fr lk (i + 2) h o st = (st.1 + 1, if st.1 = 0 then (i + 2, h, o) else st.2.1, fun k v => st.2.2 k v || (decide (k < lk) && decide (v = hvN (fr + k) (i + 2) h o))) := by unfold stq; rw [if_pos q]
            rw [eS] at ihO
            refine rt_loop (P := fun n => ∀ M, Fr M I [130] → (∀ k, k < 24 → ∀ v, v < 41 → M 130 (41 * k + v) = b2i (st.2.2 k v || (decide (k < n) && decide (v = hvN (fr + k) (i + 2) h o)))) → rt_AW G (d + 2) kX12_findTold Q 74 [some (.ref 108), some (.int e), some (.int (nI fr)), some (.int (nI lk)), some (.int (nI (i + 2))), some (.int (nI h)), some (.int (nI o)), some (.int (nI n))] [] M L r) lk ?_ ?_ M hF (fun k hk v hv => by rw [hS k hk v hv]; simp)
            · intro M hF hT
              refine v_X12_findTold_74 _ _ _ _ _ _ _ _ _ _ ⟨fun _ => ?_, fun z => absurd (Int32.le_refl _) z⟩
              rw [nI_1]
              exact ihO M hF hT
            · intro n hn ihN M hF hT
              obtain ⟨v1, v2⟩ := hgt_ex (t := fr + n) (p := i + 2) (h := h) (o := o) (by omega) (by omega) (by omega) (by omega) ho
              refine v_X12_findTold_74 _ _ _ _ _ _ _ _ _ _ ⟨fun z => absurd ((n_le (a := lk) (b := n) rfl rfl (by omega) (by omega)).mp z) (by omega), fun _ => sX12_heightOf ((nI_ltI (a := 0) (by omega) (by omega)).mpr (by omega)) ?_⟩
              rw [nI_add, v2]
              have ei : (41 : Int32) * nI n + nI (hvN (fr + n) (i + 2) h o) = nI (41 * n + hvN (fr + n) (i + 2) h o) := by rw [show (41 : Int32) * nI n = nI (41 * n) from n_lm 41 n, nI_add]
              refine ⟨vp_nI ei (by omega) (by omega), ?_⟩
              rw [cl ei (by omega), nI_1]
              refine ihN _ (hF.u (by decide)) (fun k hk v hv => ?_)
              by_cases q2 : 41 * k + v = 41 * n + hvN (fr + n) (i + 2) h o
              · have hk2 : k = n := by omega
                subst hk2
                have hv2 : v = hvN (fr + k) (i + 2) h o := by omega
                rw [← hv2, rt_u_at]
                simp
                decide
              · rw [rt_u1 q2, hT k hk v hv]
                congr 2
                by_cases e1 : k = n
                · subst e1
                  have : ¬ v = hvN (fr + k) (i + 2) h o := fun a => q2 (by rw [← a])
                  simp [this]
                · rw [show decide (k < n + 1) = decide (k < n) from decide_eq_decide.mpr (by omega)]
          · have eS : stq mk e fr lk (i + 2) h o st = st := by unfold stq; rw [if_neg q]
            rw [eS] at ihO
            rw [nI_1]
            exact ihO M hF hS
  · intro n hn ih M hF hz
    refine v_X12_findTold_3 _ _ _ _ _ _ _ ⟨fun z => absurd ((n_le (a := 984) (b := n) rfl rfl (by omega) (by omega)).mp z) (by omega), fun _ => ⟨vp_nI rfl (by omega) (by omega), ?_⟩⟩
    rw [cl (n := n) rfl (by omega), nI_1]
    refine ih _ (hF.u (by decide)) (fun j hj => ?_)
    by_cases q : j = n
    · rw [q, rt_u_at]; decide
    · rw [rt_u1 q]; exact hz j (by omega)
theorem wX12_toldAt {k : Nat} {x : Int32} {st : Nat × (Nat × Nat × Nat) × (Nat → Nat → Bool)} (hS : FS st I) (hx : x = nI k) (hk : k < 24) (hQ : Q (nI (cb (st.2.2 k) 41)) I L r) : rt_Call G (d + 1) kX12_toldAt [.ref 108, .int x] I L r Q := by
  subst hx
  refine v_X12_toldAt _ _ _ _ (rt_loop (P := fun v => rt_AW G (d + 1) kX12_toldAt Q 4 [some (.ref 108), some (.int (nI k)), some (.int (nI (cb (st.2.2 k) v))), some (.int (nI v))] [] I L r) 41 ?_ ?_)
  · exact v_X12_toldAt_4 _ _ _ _ _ _ ⟨fun _ => hQ, fun z => absurd (by decide) z⟩
  · intro v hv ih
    have ei : (41 : Int32) * nI k + nI v = nI (41 * k + v) := by rw [show (41 : Int32) * nI k = nI (41 * k) from n_lm 41 k, nI_add]
    rw [cb_s] at ih
    refine v_X12_toldAt_4 _ _ _ _ _ _ ⟨fun z => absurd ((n_lt (a := 40) (b := v) rfl rfl (by omega) (by omega)).mp z) (by omega), fun _ => ⟨vp_nI ei (by omega) (by omega), ?_⟩⟩
    rw [cl ei (by omega), hS k hk v hv, nI_1, nI_1]
    refine ⟨fun z => ?_, fun z => ?_⟩
    · rw [if_neg (by rw [b2i_z.mp z]; decide)] at ih
      rw [Int32.add_zero]; exact ih
    · rw [if_pos (b2i_t.mp z)] at ih
      exact ih
theorem inr_big {x : Int32} {n : Nat} (hn : n < 2 ^ 31) (h : inr x n) : ∃ k, k < n ∧ x = nI k := by
  obtain ⟨h1, h2⟩ := h
  obtain ⟨k, hk, rfl⟩ := nI_of h1
  exact ⟨k, (nI_ltI hk (by omega)).mp h2, rfl⟩
/-- the least and the greatest of those below k -/
def rdF (b : Nat → Bool) : Nat → Int32 × Int32
  | 0 => (-1, -1)
  | k + 1 => if b k = true then (if (rdF b k).1 = -1 then nI k else (rdF b k).1, nI k) else rdF b k
theorem rdF_ex (b : Nat → Bool) : ∀ n, n ≤ 1000 → (rdF b n = (-1, -1) ∧ ∀ k, k < n → b k = false) ∨ ∃ i j, i < n ∧ j < n ∧ rdF b n = (nI i, nI j) ∧ b i = true ∧ b j = true ∧ (∀ k, k < i → b k = false) ∧ ∀ k, j < k → k < n → b k = false
  | 0, _ => Or.inl ⟨rfl, fun k hk => absurd hk (Nat.not_lt_zero _)⟩
  | n + 1, hn => by
    have e : rdF b (n + 1) = if b n = true then (if (rdF b n).1 = -1 then nI n else (rdF b n).1, nI n) else rdF b n := rfl
    rw [e]
    rcases rdF_ex b n (by omega) with ⟨h1, h2⟩ | ⟨i, j, hi, hj, h1, h2, h3, h4, h5⟩
    · by_cases q : b n = true
      · refine Or.inr ⟨n, n, by omega, by omega, ?_, q, q, h2, fun k a c => by omega⟩
        rw [if_pos q, h1]
        rfl
      · refine Or.inl ⟨by rw [if_neg q]; exact h1, fun k hk => ?_⟩
        by_cases e2 : k = n
        · rw [e2]; cases hh : b n with
          | false => rfl
          | true => exact absurd hh q
        · exact h2 k (by omega)
    · by_cases q : b n = true
      · refine Or.inr ⟨i, n, by omega, by omega, ?_, h2, q, h4, fun k a c => by omega⟩
        rw [if_pos q, h1, if_neg (n_ne1 (by omega))]
      · refine Or.inr ⟨i, j, by omega, by omega, by rw [if_neg q]; exact h1, h2, h3, h4, fun k a c => ?_⟩
        by_cases e2 : k = n
        · rw [e2]; cases hh : b n with
          | false => rfl
          | true => exact absurd hh q
        · exact h5 k a (by omega)
def fRead (mk : MKT) (row : List Int32) (e t : Int32) : Int32 × List Int32 := if inb e 21 = true ∧ inb t 1000 = true then (nI (cb ((srch mk e (cc t) 1).2.2 0) 41), [(rdF ((srch mk e (cc t) 1).2.2 0) 41).1, (rdF ((srch mk e (cc t) 1).2.2 0) 41).2]) else (-1, row)
theorem MI.f130 {M : rt_I} (h : MI B s m us kp mk row tx I) (hF : Fr M I [130]) : MI B s m us kp mk row tx M := h.q (hF.mono (by decide)) (fun j _ => by rw [hF 108 (by decide)]) (by rw [hF 108 (by decide)]; exact h.z28) (h.2.2.2.2.2.1.fr (by rw [hF 108 (by decide)]) (hF 115 (by decide)))
theorem fM_read {e t : Int32} (h : MI B s m us kp mk row tx I) (h10 : mk.1 ≤ 10)
    (hQ : ∀ M r', MI B s m us kp mk (fRead mk row e t).2 tx M → Lo M I → M 108 14 = 0 → Q (fRead mk row e t).1 M L r') : rt_Call G (d + 3) kX12_read [.ref 108, .int e, .int t] I L r Q := by
  have h0 := h.t0
  have hLJ : Lo (rt_u I 108 14 0) I := Lo.of u14F (by decide)
  unfold fRead at hQ
  have hno : ¬ (inb e 21 = true ∧ inb t 1000 = true) → Q (-1) (rt_u I 108 14 0) L r := by
    intro q
    rw [if_neg q] at hQ
    exact hQ _ _ h0 hLJ rt_u_at
  refine v_X12_read _ _ _ _ _ (sX12_in (fun z1 => ⟨fun q => absurd q (by decide), fun _ => sX12_in (fun z2 => ⟨fun _ => ?_, fun q => absurd q (by decide)⟩) (fun z2 => ⟨fun q => absurd rfl q, fun _ => hno (fun q => z2 ((inbD (k := 999) (by omega)).mpr q.2))⟩)⟩) (fun z1 => ⟨fun _ => hno (fun q => z1 ((inbD (k := 20) (by omega)).mpr q.1)), fun q => absurd rfl q⟩))
  have hz1 := (inbD (k := 20) (by omega)).mp z1
  have hz2 := (inbD (k := 999) (by omega)).mp z2
  rw [if_pos ⟨hz1, hz2⟩] at hQ
  obtain ⟨n, hn, rfl⟩ := inr_big (by omega) (inb_iff.mp hz2)
  rw [cc_nI (by omega)] at hQ
  refine wX12_findTold (fr := n) (lk := 1) h0.mm h10 (by omega) (by omega) rfl rfl (fun M1 hF hS => ?_)
  have h1 := h0.f130 hF
  have l1 : Lo M1 I := (Lo.of hF (by decide)).trans hLJ
  have a1 : M1 108 14 = 0 := by rw [hF 108 (by decide)]; exact rt_u_at
  generalize srch mk e n 1 = st at *
  refine rt_loop (P := fun v => rt_AW G (d + 3) kX12_read Q 43 [some (.ref 108), none, none, some (.int (rdF (st.2.2 0) v).1), some (.int (rdF (st.2.2 0) v).2), some (.int (nI v))] [] M1 L r) 41 ?_ ?_
  · refine v_X12_read_43 _ _ _ _ _ _ ⟨fun _ => gM_tel2 h1.c13 (by simp) (fun M2 h2 f2 g2 => gM_tel2 h2 (by simp) (fun M3 h3 f3 g3 => ?_)), fun z => absurd (by decide) z⟩
    have hS3 : FS st M3 := fun k hk v hv => by rw [f3 130 (by decide), f2 130 (by decide), rt_u_ne (by decide)]; exact hS k hk v hv
    exact wX12_toldAt (k := 0) hS3 rfl (by omega) (hQ M3 r h3 ((Lo.of f3 (by decide)).trans ((Lo.of f2 (by decide)).trans (c13L.trans l1))) ((g3 14 (by decide)).trans ((g2 14 (by decide)).trans ((rt_u1 (by decide)).trans a1))))
  · intro v hv ih
    have e1 : rdF (st.2.2 0) (v + 1) = if st.2.2 0 v = true then (if (rdF (st.2.2 0) v).1 = -1 then nI v else (rdF (st.2.2 0) v).1, nI v) else rdF (st.2.2 0) v := rfl
    rw [e1] at ih
    refine v_X12_read_43 _ _ _ _ _ _ ⟨fun z => absurd ((n_lt (a := 40) (b := v) rfl rfl (by omega) (by omega)).mp z) (by omega), fun _ => ⟨vp_nI rfl (by omega) (by omega), ?_⟩⟩
    have h130 : M1 130 v = b2i (st.2.2 0 v) := by have := hS 0 (by omega) v hv; rw [show 41 * 0 + v = v by omega] at this; exact this
    rw [cl (n := v) rfl (by omega), h130, nI_1]
    refine ⟨fun z => ⟨fun z2 => ?_, fun z2 => ?_⟩, fun z => ?_⟩
    · rw [if_pos (b2i_t.mp z), if_neg z2] at ih
      exact ih
    · rw [if_pos (b2i_t.mp z), if_pos z2] at ih
      exact ih
    · rw [if_neg (by rw [b2i_z.mp z]; decide)] at ih
      exact ih
end
