/-! day(): the model's face -/
def dEnd (G : rt_G) (d : Nat) (Q : rt_Q) (x1 x3 : Int32) (I : rt_I) (L : rt_L) (r : Nat) : Prop :=
  ((x3 ≤ 0 → ((x1 ≤ x3 → rt_Call G d kX12_tell [.ref 108, .int 0] (rt_u I 108 13 0) L r (fun v1 I1 L1 r1 => rt_Call G d kX12_tell [.ref 108, .int (I1 108 35)] I1 L1 r1 (fun v2 I2 L2 r2 => Q x3 I2 L2 r2)))
      ∧ (¬ x1 ≤ x3 → rt_Call G d kX12_tell [.ref 108, .int 1] (rt_u I 108 13 0) L r (fun v3 I3 L3 r3 => rt_Call G d kX12_tell [.ref 108, .int (I3 108 35)] I3 L3 r3 (fun v4 I4 L4 r4 => Q x3 I4 L4 r4)))))
    ∧ (¬ x3 ≤ 0 → rt_Call G d kX12_remember [.ref 108, .ref 123] I L r (fun v5 I5 L5 r5 =>
      ((x1 ≤ x3 → rt_Call G d kX12_tell [.ref 108, .int 0] (rt_u I5 108 13 0) L5 r5 (fun v6 I6 L6 r6 => rt_Call G d kX12_tell [.ref 108, .int (I6 108 35)] I6 L6 r6 (fun v7 I7 L7 r7 => Q x3 I7 L7 r7)))
       ∧ (¬ x1 ≤ x3 → rt_Call G d kX12_tell [.ref 108, .int 1] (rt_u I5 108 13 0) L5 r5 (fun v8 I8 L8 r8 => rt_Call G d kX12_tell [.ref 108, .int (I8 108 35)] I8 L8 r8 (fun v9 I9 L9 r9 => Q x3 I9 L9 r9)))))))
section
variable {G : rt_G} {d : Nat} {Q : rt_Q} {I J : rt_I} {L : rt_L} {r B l p n : Nat} {w : Option Nat} {c : Nat → Int32} {s : SV} {m m0 : MO} {us : List MO} {kp : Nat → Option MO} {mk : MKT} {row : List Int32} {tx : TXT}
theorem dEnd_of {k i cm : Nat} {m1 : MO} {us' : List MO} (h : MI B s m1 us kp mk row tx I) (hk : sok s) (h123 : MMo s m (I 123)) (h35 : I 108 35 = nI cm) (h14 : I 108 14 = 0) (hki : k < 1000) (hi : i < 1000) (hus : us' = if i = 0 then us else (m :: us).take 12)
    (hQ : ∀ M, MI B s m1 us' kp mk [if i < k then 1 else 0, nI cm] tx M → Lo M I → M 108 14 = 0 → Q (nI i) M L r) : dEnd G (d + 1) Q (nI k) (nI i) I L r := by
  have two : ∀ M (b : Int32), MI B s m1 us' kp mk row tx M → Lo M I → M 108 14 = 0 → M 108 35 = nI cm → b = (if i < k then 1 else 0) → rt_Call G (d + 1) kX12_tell [.ref 108, .int b] (rt_u M 108 13 0) L r (fun v1 I1 L1 r1 => rt_Call G (d + 1) kX12_tell [.ref 108, .int (I1 108 35)] I1 L1 r1 (fun v2 I2 L2 r2 => Q (nI i) I2 L2 r2)) := by
    intro M b hM hLo h14' h35' hb
    have hFc : Fr (rt_u M 108 13 0) M [108, 115] := (Fr.refl _ _).u (by decide)
    have h8c : F8 (rt_u M 108 13 0) M [13] := (F8.refl _ _).u (fun _ => by decide)
    refine wX12_tell MRw.clear (by simp) (fun M2 hF2 h82 hR2 => ?_)
    rw [h82 35 (by decide), h8c 35 (by decide), h35']
    refine wX12_tell hR2 (by simp) (fun M3 hF3 h83 hR3 => ?_)
    rw [hb] at hR3
    have hF := hF3.trans (hF2.trans hFc)
    have h8 := h83.trans (h82.trans h8c)
    exact hQ M3 (hM.rw hF h8 hR3) ((Lo.of hF (by decide)).trans hLo) ((h8 14 (by decide)).trans h14')
  refine ⟨fun z => ?_, fun z => ?_⟩
  · have hi0 : i = 0 := by
      have := (n_le (a := i) (b := 0) rfl rfl (by omega) (by omega)).mp z
      omega
    rw [if_pos hi0] at hus
    subst hus
    refine ⟨fun z2 => ?_, fun z2 => ?_⟩
    · have := (nI_leI (by omega) (by omega)).mp z2
      exact two I 0 h (fun _ _ => rfl) h14 h35 (by rw [if_neg (by omega)])
    · have := mt (nI_leI (by omega) (by omega)).mpr z2
      exact two I 1 h (fun _ _ => rfl) h14 h35 (by rw [if_pos (by omega)])
  · have hi0 : ¬ i = 0 := fun e => z (by rw [e]; decide)
    rw [if_neg hi0] at hus
    subst hus
    refine wX12_remember_aside hk h.2.2.1 h123 (fun M hF h8 hH => ?_)
    have hM : MI B s m1 ((m :: us).take 12) kp mk row tx M := h.a (hF.mono (by decide)) (h8.mono (by decide)) ((h8 28 (by decide)).trans h.z28) (by rw [hF 109 (by decide)]; exact h.2.1) hH
    refine ⟨fun z2 => ?_, fun z2 => ?_⟩
    · have := (nI_leI (by omega) (by omega)).mp z2
      exact two M 0 hM (Lo.of hF (by decide)) ((h8 14 (by decide)).trans h14) ((h8 35 (by decide)).trans h35) (by rw [if_neg (by omega)])
    · have := mt (nI_leI (by omega) (by omega)).mpr z2
      exact two M 1 hM (Lo.of hF (by decide)) ((h8 14 (by decide)).trans h14) ((h8 35 (by decide)).trans h35) (by rw [if_pos (by omega)])
theorem sX12_run {A : Nat → T3} {k : Nat} (hkk : k < 60) (hk : sok s) (hA : ∀ j, j < k → tok3 (A j)) : ∀ (F i : Nat) (m1 : MO) (cm C : Nat) (I : rt_I) (r : Nat), i + F = k → MI B s m1 us kp mk row tx I → MMo s m (I 123) → mok s C m1 → C + 99 * F < 2 ^ 29 → I 108 35 = nI cm → I 108 14 = 0 → (∀ j, j < k → a3k (A j) (I 124) j) →
    (∀ M r', MI B s (dRun s A F i m1 cm).2.1 us kp mk row tx M → MMo s m (M 123) → M 108 35 = nI (dRun s A F i m1 cm).2.2 → M 108 14 = 0 → Lo M I → dEnd G (d + 133) Q (nI k) (nI (dRun s A F i m1 cm).1) M L r') →
    rt_AW G (d + 134) kX12_day Q 121 [some (.ref 108), some (.int (nI k)), none, some (.int (nI i))] [] I L r := by
  intro F
  induction F with
  | zero =>
    intro i m1 cm C I r hi h h123 hm hB h35 h14 hT hQ
    obtain rfl : i = k := by omega
    exact v_X12_day_121 _ _ _ _ _ ⟨fun _ => hQ I r h h123 h35 h14 (fun _ _ => rfl), fun z => absurd (Int32.le_refl _) z⟩
  | succ F ih =>
    intro i m1 cm C I r hi h h123 hm hB h35 h14 hT hQ
    refine v_X12_day_121 _ _ _ _ _ ⟨fun z => ?_, fun _ => ?_⟩
    · have := (nI_leI (by omega) (by omega)).mp z
      omega
    simp (disch := omega) only [n3, na1, na2, vpT, clT, true_and]
    obtain ⟨t1, t2, t3⟩ := hT i (by omega)
    rw [t1, t2]
    rw [dRun_s] at hQ
    refine sX12_act (B := C) (hA i (by omega)) (fun y => t3 y) h.1 hk h.2.1 hm (by omega) (fun M r' ha hN hMo g35 => ⟨fun z => absurd z (by decide), fun _ => ?_⟩) (fun ha => ⟨fun _ => ?_, fun z => absurd rfl z⟩)
    · rw [if_pos ha] at hQ
      rw [h35, nI_add] at g35
      have hM := h.a (us' := us) (hN.1.mono (by decide)) (hN.2.1.mono (by decide)) (hN.2.2.trans h.z28) hMo (h.2.2.1.fr (hN.2.1 31 (by decide)) (hN.1 122 (by decide)))
      refine ih (i + 1) _ _ (C + 99) M r' (by omega) hM (by rw [hN.1 123 (by decide)]; exact h123) (dAct_ok hk hm (hA i (by omega))) (by omega) g35 ((hN.2.1 14 (by decide)).trans h14) (fun j hj => ?_) (fun M' r'' x1 x2 x3 x4 x5 => hQ M' r'' x1 x2 x3 x4 (x5.trans (Lo.of hN.1 (by decide))))
      rw [hN.1 124 (by decide)]
      exact hT j hj
    · rw [if_neg ha] at hQ
      exact hQ I r h h123 h35 h14 (fun _ _ => rfl)
theorem day_exit {k : Nat} (hF : MFd I J n) (hn : n < 1000) (hp : p < 1000) (hw : wok w)
    (hok : w = none → n ≤ p → rt_Call G (d + 6) kX12_lay [.ref 109, .ref 123, .int 0] (mp J p none) L 114 (fun v2 I2 L2 r2 => rt_Call G (d + 6) kX12_beginTurns [.ref 108] I2 L2 r2 (fun v3 I3 L3 r3 => rt_AW G (d + 7) kX12_day Q 121 [some (.ref 108), some (.int (nI k)), none, some (.int 0)] [] I3 L3 r3)))
    (hbad : ∀ q, endw n p w = some q → Q (-1 - nI q) (mp J p (some q)) L 114) : rt_AW G (d + 7) kX12_day Q 39 [some (.ref 108), some (.int (nI k)), some (.int 0), none] [] (mp J p w) L 114 := by
  have e16 : (mp J p w) 108 16 = nI n := hF.2.2.2.2
  refine v_X12_day_39 _ _ _ _ _ ⟨fun _ => ⟨fun z => ?_, fun z => ?_⟩, fun z => absurd rfl z⟩
  · have z2 := (n_le (a := n) (b := p) e16 rfl (by omega) (by omega)).mp z
    refine sX12_fine hw (fun y => ⟨fun _ => ?_, fun x => absurd x (by decide)⟩) (fun y => ⟨fun x => absurd rfl x, fun _ => ?_⟩)
    · subst y
      exact hok rfl z2
    · cases w with
      | none => exact absurd rfl y
      | some q => exact hbad q (by unfold endw; rw [if_neg (by omega)])
  · have z2 := mt (n_le (a := n) (b := p) e16 rfl (by omega) (by omega)).mpr z
    refine sX12_fault (q := p) hw (sX12_fine (wok_or hw hp) (fun y => ?_) (fun y => ⟨fun x => absurd rfl x, fun _ => ?_⟩))
    · cases w <;> cases y
    · cases w with
      | none => exact hbad p (by unfold endw; rw [if_pos (by omega)]; rfl)
      | some q => exact hbad q (by unfold endw; rw [if_pos (by omega)]; rfl)
theorem day_loop (h60 : l ≤ 60) (hln : l ≤ n) (hn : n < 1000) (hcl : ∃ f, c = ch f l) : ∀ (F i p : Nat) (A : Nat → T3) (J : rt_I), RB c l J → MDd A I J n i → (∀ j, j < i → tok3 (A j)) → p ≤ l → 61 ≤ p + F → 2 * i ≤ p →
    (∀ J' q k A', actsF c F i p A = (q, some (k, A')) → MDd A' I J' n k → (∀ j, j < k → tok3 (A' j)) → q ≤ l → k < 60 → rt_AW G (d + 7) kX12_day Q 39 [some (.ref 108), some (.int (nI k)), some (.int 0), none] [] (mp J' q none) L 114) →
    (∀ J' q p', actsF c F i p A = (q, none) → MFd I J' n → Q (-1 - nI q) (mp J' p' (some q)) L 114) →
    rt_AW G (d + 7) kX12_day Q 39 [some (.ref 108), some (.int (nI i)), some (.int 1), none] [] (mp J p none) L 114 := by
  intro F
  induction F with
  | zero => intro i p A J _ _ _ _ _ _; omega
  | succ F ih =>
    intro i p A J hR hM hA hp hF hip hQ1 hQ0
    obtain ⟨f, hf⟩ := hcl
    rw [actsF_s] at hQ1 hQ0
    refine v_X12_day_39 _ _ _ _ _ ⟨fun z => absurd z (by decide), fun _ => sX12_fine wokn (fun _ => ⟨fun z => absurd z (by decide), fun _ => ?_⟩) (fun z => absurd rfl z)⟩
    rw [n3]
    refine sX12_readAct (d := d) (i := i) hR hM (by omega) rfl (by omega) (fun J' q t hq hM' hR' => ?_) (fun J' p' q hq hF' hR' hp' => ?_)
    · have hq' : actF (ch f l) p = (q, some t) := by rw [← hf]; exact hq
      obtain ⟨q1, q2, q3, q4⟩ := actF_all (by rw [← hf]; exact hR.2.2.2) hp hq'
      have q5 := q3 (by simp)
      have ht := q4 t rfl
      have hA' : ∀ j, j < i + 1 → tok3 (updT A i t j) := fun j hj => by
        by_cases e : j = i
        · subst e; rw [updT_0]; exact ht
        · rw [updT_1 e]; exact hA j (by omega)
      rw [hq] at hQ1 hQ0
      dsimp only at hQ1 hQ0
      rw [nI_1]
      refine b_passes hR' (by omega) wokn (fun _ y => ?_) (fun y => ?_)
      · have hlt := ch_in (f := f) (l := l) (p := q) (by rw [← hf, y]; decide)
        rw [if_pos y] at hQ1 hQ0
        exact ih (i + 1) (q + 1) _ J' hR' hM' hA' (by omega) (by omega) (by omega) hQ1 hQ0
      · have y1 : ¬ c q = 59 := fun e => y ⟨rfl, e⟩
        rw [if_neg y1] at hQ1 hQ0
        by_cases y2 : c q = -1
        · rw [if_pos y2] at hQ1
          exact hQ1 J' q (i + 1) _ rfl hM' hA' q1 (by omega)
        · rw [if_neg y2] at hQ0
          have hlt := ch_in (f := f) (l := l) (p := q) (by rw [← hf]; exact y2)
          refine day_exit hM'.1 hn (by omega) wokn (fun _ x => absurd x (by omega)) (fun q' e => ?_)
          unfold endw at e
          rw [if_pos (by omega)] at e
          cases e
          exact hQ0 J' q q rfl hM'.1
    · have hq' : actF (ch f l) p = (q, none) := by rw [← hf]; exact hq
      obtain ⟨q1, q2, -, -⟩ := actF_all (by rw [← hf]; exact hR.2.2.2) hp hq'
      rw [hq] at hQ0
      rw [nI_1]
      have hwq : wok (some q) := fun x e => by cases e; omega
      refine b_passes hR' (by omega) hwq (fun y => by cases y) (fun _ => ?_)
      refine day_exit hF' hn (by omega) hwq (fun y => by cases y) (fun q' e => ?_)
      have e2 : q' = q := by
        unfold endw at e
        split at e
        · cases e; rfl
        · cases e; rfl
      subst e2
      exact hQ0 J' q' p' rfl hF'
theorem MI.txd {M : rt_I} (h : MI B s m us kp mk row tx I) (hf : Fr M I [108, 124, 123]) (h8 : F8 M I [11, 14, 16, 17, 18, 19, 35, 36, 37]) (h11 : M 108 11 = 0) : MI B s m us kp mk row (0, tx.2) M := by
  obtain ⟨a1, a2, a3, a4, a5, a6, a7⟩ := h
  exact ⟨a1.fr (fun j hj => h8 j (fun z => by
    simp only [List.mem_cons, List.not_mem_nil, or_false] at hj z
    omega)) ((h8 28 (by decide)).trans a1.2.2.2.2.2.2.2.2.2.2) (hf 110 (by decide)) (hf 111 (by decide)) (hf 112 (by decide)) (hf 113 (by decide)) (hf 120 (by decide)), by rw [hf 109 (by decide)]; exact a2, a3.fr (h8 31 (by decide)) (hf 122 (by decide)), a4.fr (h8 52 (by decide)) (hf 132 (by decide)) (hf 133 (by decide)) (hf 134 (by decide)), a5.fr (h8 48 (by decide)) (hf 129 (by decide)), a6.fr (h8 13 (by decide)) (hf 115 (by decide)), h11, fun j hj => absurd hj (by omega), fun i => by rw [hf 114 (by decide)]; exact a7.2.2 i⟩
theorem fM_day (h : MI B s m us kp mk row tx I) (hk : sok s) (hm : mok s B m) (hB : B < 2 ^ 28) (hT : tok tx)
    (hQ : ∀ M r', MI B s (fDay s m us row tx).2.1 (fDay s m us row tx).2.2.1 kp mk (fDay s m us row tx).2.2.2 (0, tx.2) M → Lo M I → M 108 14 = 0 → Q (fDay s m us row tx).1 M L r') : rt_Call G (d + 134) kX12_day [.ref 108] I L r Q := by
  obtain ⟨hn, hch, hby⟩ := h.2.2.2.2.2.2
  have h80 := hT.1
  refine v_X12_day _ _ _ (v_X12_begin_t _ _ _ _ _ ?_)
  rw [hn]
  obtain ⟨l, hl⟩ : ∃ l, l = min tx.1 60 := ⟨_, rfl⟩
  obtain ⟨J, hJ⟩ : ∃ J, J = rt_u (rt_u (rt_u (rt_u I 108 14 0) 108 16 (nI tx.1)) 108 17 60) 108 11 0 := ⟨_, rfl⟩
  have eS : rt_u (rt_u (rt_u (rt_u (rt_u (rt_u I 108 14 0) 108 16 (nI tx.1)) 108 17 60) 108 18 0) 108 19 (-1)) 108 11 0 = mp J 0 none := by
    rw [hJ, ← mp_u _ _ 108 11 _ _ (Or.inr ⟨by decide, by decide⟩)]
    rfl
  have hFJ : Fr J I [108, 124] := by rw [hJ]; exact ((((Fr.refl I _).u (by decide)).u (by decide)).u (by decide)).u (by decide)
  have h8J : F8 J I [11, 14, 16, 17, 18, 19] := by rw [hJ]; exact ((((F8.refl I _).u (fun _ => by decide)).u (fun _ => by decide)).u (fun _ => by decide)).u (fun _ => by decide)
  have hMF : MFd I J tx.1 := ⟨hFJ, h8J, by rw [hJ]; rfl, by rw [hJ]; rfl, by rw [hJ]; rfl⟩
  have e114 : J 114 = I 114 := hFJ 114 (by decide)
  have hRB : RB (txc tx 60) l J := by
    refine ⟨⟨rfl, Or.inl ⟨rfl, by omega⟩, tx.1, 60, by rw [hJ]; rfl, by rw [hJ]; rfl, hl, by omega, by omega⟩, fun i => by rw [e114]; exact hby i, ?_, c8_tx hT 60⟩
    unfold mch txc
    rw [e114, ← hl]
    exact ch_agr (n := tx.1) hch (by omega)
  have hMD : MDd (fun _ => (0, 0, 0)) I J tx.1 0 := ⟨hMF, fun j hj => absurd hj (by omega)⟩
  have hrej : ∀ J' q p', MFd I J' tx.1 → fDay s m us row tx = (-1 - nI q, m, us, row) → Q (-1 - nI q) (mp J' p' (some q)) L 114 := by
    intro J' q p' hF' e
    rw [e] at hQ
    have a1 := hF'.1.mp (p := p') (w := some q) (by decide)
    exact hQ _ 114 (h.txd (a1.mono (by decide)) ((hF'.2.1.mp (by decide) (by decide)).mono (by decide)) hF'.2.2.1) (a1.lo (by decide)) hF'.2.2.2.1
  have run : ∀ J' q k A', MDd A' I J' tx.1 k → (∀ j, j < k → tok3 (A' j)) → k < 60 → fDay s m us row tx = dOut m us k (dRun s A' k 0 m 0) → rt_Call G (d + 133) kX12_lay [.ref 109, .ref 123, .int 0] (mp J' q none) L 114 (fun v2 I2 L2 r2 => rt_Call G (d + 133) kX12_beginTurns [.ref 108] I2 L2 r2 (fun v3 I3 L3 r3 => rt_AW G (d + 134) kX12_day Q 121 [some (.ref 108), some (.int (nI k)), none, some (.int 0)] [] I3 L3 r3)) := by
    intro J' q k A' hM' hok hk60 he
    rw [he] at hQ
    unfold dOut at hQ
    dsimp only at hQ
    have a1 := hM'.1.1.mp (p := q) (w := none) (by decide)
    have a2 := hM'.1.2.1.mp (p := q) (w := none) (by decide) (by decide)
    refine wX12_lay_na (b := 0) rfl (by omega) (fun M hF hlay _ => v_X12_beginTurns _ _ _ ?_)
    generalize hK : rt_u (rt_u (rt_u M 108 35 0) 108 36 0) 108 37 0 = K
    have hFK : Fr K M [108] := by rw [← hK]; exact (((Fr.refl _ _).u (by decide)).u (by decide)).u (by decide)
    have h8K : F8 K M [35, 36, 37] := by rw [← hK]; exact (((F8.refl _ _).u (fun _ => by decide)).u (fun _ => by decide)).u (fun _ => by decide)
    have e35 : K 108 35 = 0 := by rw [← hK]; rfl
    have h8M : F8 M I [11, 14, 16, 17, 18, 19] := fun j hj => by rw [hF 108 (by decide)]; exact a2 j hj
    have hFa : Fr K I [108, 124, 123] := (hFK.mono (by decide)).trans ((hF.mono (by decide)).trans (a1.mono (by decide)))
    have h8a : F8 K I [11, 14, 16, 17, 18, 19, 35, 36, 37] := (h8K.mono (by decide)).trans (h8M.mono (by decide))
    have k11 : K 108 11 = 0 := by rw [h8K 11 (by decide), hF 108 (by decide)]; exact hM'.1.2.2.1
    have k14 : K 108 14 = 0 := by rw [h8K 14 (by decide), hF 108 (by decide)]; exact hM'.1.2.2.2.1
    have hK' := h.txd hFa h8a k11
    have h123 : MMo s m (K 123) := by
      refine MMo.c65 hk h.2.1 (fun t ht => ?_)
      rw [hFK 123 (by decide)]
      have := hlay t ht
      rw [Nat.zero_add] at this
      rw [this, a1 109 (by decide)]
    have h124 : K 124 = J' 124 := by rw [hFK 124 (by decide), hF 124 (by decide)]; rfl
    refine sX12_run (m := m) (k := k) (A := A') hk60 hk hok k 0 m 0 B K 114 (by omega) hK' h123 hm (by omega) e35 k14 (fun j hj => by rw [h124]; exact hM'.2 j hj) (fun M2 r2 x1 x2 x3 x4 x5 => ?_)
    have hle := (dRun_le (s := s) (A := A') k 0 0 m).2
    exact dEnd_of (d := d + 132) (m := m) x1 hk x2 x3 x4 (by omega) (by omega) rfl (fun M3 y1 y2 y3 => hQ M3 r2 y1 ((y2.trans x5).trans (Lo.of hFa (by decide))) y3)
  refine ⟨fun z => ?_, fun z => ?_⟩
  · have hn0 : tx.1 = 0 := by
      have := (n_le (a := tx.1) (b := 0) (x := nI tx.1) (y := 0) rfl rfl (by omega) (by omega)).mp z
      omega
    have hrd : dRd tx = (0, some (0, fun _ => (0, 0, 0))) := by unfold dRd; rw [if_pos hn0]
    rw [eS]
    refine day_exit (k := 0) hMF (by omega) (by omega) wokn (fun _ _ => run J 0 0 _ hMD (fun j hj => absurd hj (by omega)) (by omega) (fDay_t hrd hn0.symm)) (fun q e => ?_)
    unfold endw at e
    rw [if_neg (by omega)] at e
    cases e
  · have hn0 : ¬ tx.1 = 0 := fun e => z (by show nI tx.1 ≤ 0; rw [e]; decide)
    have hrd : dRd tx = actsF (txc tx 60) 61 0 0 (fun _ => (0, 0, 0)) := by unfold dRd; rw [if_neg hn0]
    rw [eS]
    refine day_loop (d := d + 127) (by omega) (by omega) (by omega) ⟨tx.2, by unfold txc; rw [hl]⟩ 61 0 0 (fun _ => (0, 0, 0)) J hRB hMD (fun j hj => absurd hj (by omega)) (by omega) (by omega) (by omega) (fun J' q k A' he hM' hok hq hk60 => ?_) (fun J' q p' he hF' => hrej J' q p' hF' (fDay_f (by rw [hrd]; exact he)))
    rw [← hrd] at he
    refine day_exit hM'.1 (by omega) (by omega) wokn (fun _ hnq => run J' q k A' hM' hok hk60 (fDay_t he (by omega))) (fun q' e => ?_)
    have hq' : q < tx.1 ∧ q' = q := by
      unfold endw at e
      split at e
      · cases e; exact ⟨by assumption, rfl⟩
      · cases e
    rw [hq'.2]
    exact hrej J' q q hM'.1 (fDay_g he (by omega))
end
