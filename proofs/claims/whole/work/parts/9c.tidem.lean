/-! tide(): the model -/
def MFt (I J : rt_I) (n : Nat) : Prop := Fr J I [108, 118] ∧ F8 J I [11, 14, 16, 17, 18, 19] ∧ J 108 11 = 0 ∧ J 108 14 = 0 ∧ J 108 16 = nI n
theorem MFt.w {I J : rt_I} {n j : Nat} {v : Int32} (h : MFt I J n) : MFt I (rt_u J 118 j v) n :=
  ⟨h.1.u (by decide), h.2.1.u (fun z => absurd z (by decide)), h.2.2.1, h.2.2.2.1, h.2.2.2.2⟩
theorem nbR_q {c : Nat → Int32} {lo hi : Int32} {p q : Nat} : nbR c lo hi p (some q) = (0, p, some q) := by
  unfold nbR
  rw [nmR_q]
  exact if_neg (fun z => by cases z.1)
theorem nbR_ok {c : Nat → Int32} {lo hi : Int32} {p : Nat} {w : Option Nat} (hw : wok w) (hp : p < 900) : wok (nbR c lo hi p w).2.2 := by
  cases w with
  | some q => rw [nbR_q]; exact hw
  | none =>
    rcases nbR_cases (c := c) (lo := lo) (hi := hi) (p := p) with ⟨_, e⟩ | ⟨_, _, e⟩ | ⟨_, _, e⟩
    · rw [e]; intro q hq; cases hq; omega
    · rw [e]
      have := nmv_le c 2 p 0
      intro q hq; cases hq; omega
    · rw [e]; intro q hq; cases hq
theorem n3 (b : Nat) : (3 : Int32) * nI b = nI (3 * b) := n_lm 3 b
section
variable {c : Nat → Int32} {p : Nat} {r1 r3 r4 : RR} {r2 : Nat × Option Nat}
theorem tide_a (e1 : r1 = nbR c 2 60 p none) (e2 : r2 = neR c 42 r1.2.1 r1.2.2) (e3 : r3 = nbR c 0 60 r2.1 r2.2) (h : r3.2.2 = none ∧ c r3.2.1 = 47) (e4 : r4 = nbR c 0 59 (r3.2.1 + 1) none) :
    (∃ q, rnF c p = (q, none) ∧ r4.2.2 = some q) ∨ (rnF c p = (r4.2.1, some (r1.1, r3.1, r4.1)) ∧ r4.2.2 = none) := by
  unfold rnF
  rw [← e1]
  obtain ⟨a, p1, w1⟩ := r1
  cases w1 with
  | some q1 =>
    rw [show neR c 42 _ _ = _ from neR_q] at e2
    subst e2
    rw [show nbR c 0 60 _ _ = _ from nbR_q] at e3
    subst e3
    cases h.1
  | none =>
    dsimp only at e2 ⊢
    by_cases y1 : c p1 = 42
    rotate_left
    · rw [neR_f y1] at e2
      subst e2
      rw [show nbR c 0 60 _ _ = _ from nbR_q] at e3
      subst e3
      cases h.1
    rw [if_neg (not_not_intro y1)]
    rw [neR_t y1] at e2
    subst e2
    dsimp only at e3
    rw [← e3]
    obtain ⟨b, p2, w2⟩ := r3
    obtain ⟨h1, h2⟩ := h
    dsimp only at h1 h2 e4
    subst h1
    dsimp only
    rw [if_neg (not_not_intro h2), ← e4]
    obtain ⟨e, p3, w3⟩ := r4
    cases w3 with
    | some q => exact Or.inl ⟨q, rfl, rfl⟩
    | none => exact Or.inr ⟨rfl, rfl⟩
theorem tide_b (e1 : r1 = nbR c 2 60 p none) (e2 : r2 = neR c 42 r1.2.1 r1.2.2) (e3 : r3 = nbR c 0 60 r2.1 r2.2) (h : ¬ (r3.2.2 = none ∧ c r3.2.1 = 47)) :
    (∃ q, rnF c p = (q, none) ∧ r3.2.2 = some q) ∨ (rnF c p = (r3.2.1, some (r1.1, r3.1, 0)) ∧ r3.2.2 = none) := by
  unfold rnF
  rw [← e1]
  obtain ⟨a, p1, w1⟩ := r1
  cases w1 with
  | some q1 =>
    rw [show neR c 42 _ _ = _ from neR_q] at e2
    subst e2
    rw [show nbR c 0 60 _ _ = _ from nbR_q] at e3
    subst e3
    exact Or.inl ⟨q1, rfl, rfl⟩
  | none =>
    dsimp only at e2 ⊢
    by_cases y1 : c p1 = 42
    rotate_left
    · rw [neR_f y1] at e2
      subst e2
      rw [show nbR c 0 60 _ _ = _ from nbR_q] at e3
      subst e3
      rw [if_pos y1]
      exact Or.inl ⟨p1, rfl, rfl⟩
    rw [if_neg (not_not_intro y1)]
    rw [neR_t y1] at e2
    subst e2
    dsimp only at e3
    rw [← e3]
    obtain ⟨b, p2, w2⟩ := r3
    cases w2 with
    | some q => exact Or.inl ⟨q, rfl, rfl⟩
    | none =>
      have h2 : ¬ c p2 = 47 := fun z => h ⟨rfl, z⟩
      dsimp only
      rw [if_pos h2]
      exact Or.inr ⟨rfl, rfl⟩
end
section
variable {G : rt_G} {d : Nat} {Q : rt_Q} {I J : rt_I} {L : rt_L} {l p n : Nat} {w : Option Nat} {c : Nat → Int32}
theorem b_numb {lo hi : Int32} (h : RB c l J) (hp : p < 900) (hw : wok w) (hQ : Q (nbR c lo hi p w).1 (mp J (nbR c lo hi p w).2.1 (nbR c lo hi p w).2.2) L 114) : rt_Call G (d + 5) kX12_number_ [.ref 108, .int lo, .int hi] (mp J p w) L 114 Q := by
  obtain ⟨h1, h2, h3, h4⟩ := h
  exact sX12_number_ h1 h2 hp hw (by rw [h3]; exact hQ)
theorem tdm_exit {k : Nat} (hF : MFt I J n) (hn : n < 1000) (hp : p < 1000) (hw : wok w) (hok : w = none → n ≤ p → rt_AW G (d + 7) kX12_tide Q 168 [some (.ref 108), some (.int (nI k)), none, some (.int 0)] [] (mp J p none) L 114) (hbad : ∀ q, endw n p w = some q → Q (-1 - nI q) (mp J p (some q)) L 114) : rt_AW G (d + 7) kX12_tide Q 28 [some (.ref 108), some (.int (nI k)), some (.int 0), none] [] (mp J p w) L 114 := by
  have e16 : (mp J p w) 108 16 = nI n := hF.2.2.2.2
  refine v_X12_tide_28 _ _ _ _ _ ⟨fun _ => ⟨fun z => ?_, fun z => ?_⟩, fun z => absurd rfl z⟩
  · have z2 := (n_le (a := n) (b := p) e16 rfl (by omega) (by omega)).mp z
    refine sX12_fine hw (fun y => ⟨fun _ => ?_, fun x => absurd x (by decide)⟩) (fun y => ⟨fun x => absurd rfl x, fun _ => ?_⟩)
    · subst y
      exact hok rfl z2
    · cases w with
      | none => exact absurd rfl y
      | some q => exact hbad q (by unfold endw; rw [if_neg (by omega)])
  · have z2 := mt (n_le (a := n) (b := p) e16 rfl (by omega) (by omega)).mpr z
    refine sX12_fault (q := p) hw (sX12_fine (wok_or hw hp) (fun y => ?_) (fun y => ⟨fun x => absurd rfl x, fun _ => ?_⟩))
    · cases w <;> cases y
    · cases w with
      | none => exact hbad p (by unfold endw; rw [if_pos (by omega)]; rfl)
      | some q => exact hbad q (by unfold endw; rw [if_pos (by omega)]; rfl)
theorem tdm_loop (h80 : l ≤ 80) (hln : l ≤ n) (hn : n < 1000) (hcl : ∃ f, c = ch f l) : ∀ (F i p : Nat) (td : Nat → Int32) (J : rt_I), i + F = 3 → 1 ≤ F → RB c l J → MFt I J n → (∀ j, j < 3 * i → J 118 j = td j) → p ≤ l →
    (∀ J' q k td', tdF c F i p td = (q, some (k, td')) → c q = -1 → q ≤ l → k ≤ 3 → MFt I J' n → (∀ j, j < 3 * k → J' 118 j = td' j) → rt_AW G (d + 7) kX12_tide Q 28 [some (.ref 108), some (.int (nI k)), some (.int 0), none] [] (mp J' q none) L 114) →
    (∀ J' q p', tdF c F i p td = (q, none) → MFt I J' n → Q (-1 - nI q) (mp J' p' (some q)) L 114) →
    rt_AW G (d + 7) kX12_tide Q 28 [some (.ref 108), some (.int (nI i)), some (.int 1), none] [] (mp J p none) L 114 := by
  intro F
  induction F with
  | zero => intro i p td J h1 h2; omega
  | succ F ih =>
    intro i p td J hi _ hR hM htd hp hQ1 hQ0
    obtain ⟨f, hf⟩ := hcl
    rw [tdF_s] at hQ1 hQ0
    refine v_X12_tide_28 _ _ _ _ _ ⟨fun z => absurd z (by decide), fun _ => sX12_fine wokn (fun _ => ⟨fun z => absurd z (by decide), fun _ => ?_⟩) (fun z => absurd rfl z)⟩
    -- what follows a round that is read, and one that is not
    have good : ∀ J' q t, rnF c p = (q, some t) → RB c l J' → MFt I J' n → (∀ j, j < 3 * (i + 1) → J' 118 j = td3 td (i * 3) t j) →
        (((3 : Int32) ≤ nI (i + 1) → rt_AW G (d + 7) kX12_tide Q 28 [some (.ref 108), some (.int (nI (i + 1))), some (.int 0), none] [] (mp J' q none) L 114) ∧
         (¬ (3 : Int32) ≤ nI (i + 1) → rt_Call G (d + 6) kX12_passes [.ref 108, .int 43] (mp J' q none) L 114 (fun v12 I12 L12 r12 => ((v12 = 0 → rt_AW G (d + 7) kX12_tide Q 28 [some (.ref 108), some (.int (nI (i + 1))), some (.int 0), none] [] I12 L12 r12) ∧ (¬ v12 = 0 → rt_AW G (d + 7) kX12_tide Q 28 [some (.ref 108), some (.int (nI (i + 1))), some (.int 1), none] [] I12 L12 r12))))) := by
      intro J' q t hq hR' hM' h118
      have hq' : rnF (ch f l) p = (q, some t) := by rw [← hf]; exact hq
      have hql := rnF_lim hp hq'
      rw [hq] at hQ1 hQ0
      dsimp only at hQ1 hQ0
      have bad : ¬ c q = -1 → (q, none) = ((q, none) : Nat × Option (Nat × (Nat → Int32))) → (∀ (J' : rt_I) (p' : Nat), MFt I J' n → Q (-1 - nI q) (mp J' p' (some q)) L 114) → rt_AW G (d + 7) kX12_tide Q 28 [some (.ref 108), some (.int (nI (i + 1))), some (.int 0), none] [] (mp J' q none) L 114 := by
        intro y _ hb
        have hlt := ch_in (f := f) (l := l) (p := q) (by rw [← hf]; exact y)
        refine tdm_exit hM' hn (by omega) wokn (fun _ x => absurd x (by omega)) (fun q' e => ?_)
        unfold endw at e
        rw [if_pos (by omega)] at e
        cases e
        exact hb J' q hM'
      refine ⟨fun z => ?_, fun z => ?_⟩
      · have hi3 := (n_le (a := 3) (b := i + 1) rfl rfl (by omega) (by omega)).mp z
        by_cases y : c q = -1
        · rw [if_pos y] at hQ1
          exact hQ1 J' q (i + 1) _ rfl y hql (by omega) hM' h118
        · rw [if_neg y, if_pos (by omega)] at hQ0
          exact bad y rfl (fun J'' p' h => hQ0 J'' q p' rfl h)
      · have hi3 := mt (n_le (a := 3) (b := i + 1) rfl rfl (by omega) (by omega)).mpr z
        refine b_passes hR' (by omega) wokn (fun _ y => ⟨fun x => absurd x (by decide), fun _ => ?_⟩) (fun y => ⟨fun _ => ?_, fun x => absurd rfl x⟩)
        · have hne : ¬ c q = -1 := by rw [y]; decide
          rw [if_neg hne, if_neg (by omega), if_pos y] at hQ1 hQ0
          have hlt := ch_in (f := f) (l := l) (p := q) (by rw [← hf]; exact hne)
          exact ih (i + 1) (q + 1) _ J' (by omega) (by omega) hR' hM' h118 (by omega) hQ1 hQ0
        · by_cases y2 : c q = -1
          · rw [if_pos y2] at hQ1
            exact hQ1 J' q (i + 1) _ rfl y2 hql (by omega) hM' h118
          · rw [if_neg y2, if_neg (by omega), if_neg (fun e => y ⟨rfl, e⟩)] at hQ0
            exact bad y2 rfl (fun J'' p' h => hQ0 J'' q p' rfl h)
    have fail : ∀ J' p' q, rnF c p = (q, none) → RB c l J' → MFt I J' n → p' < 900 →
        (((3 : Int32) ≤ nI (i + 1) → rt_AW G (d + 7) kX12_tide Q 28 [some (.ref 108), some (.int (nI (i + 1))), some (.int 0), none] [] (mp J' p' (some q)) L 114) ∧
         (¬ (3 : Int32) ≤ nI (i + 1) → rt_Call G (d + 6) kX12_passes [.ref 108, .int 43] (mp J' p' (some q)) L 114 (fun v12 I12 L12 r12 => ((v12 = 0 → rt_AW G (d + 7) kX12_tide Q 28 [some (.ref 108), some (.int (nI (i + 1))), some (.int 0), none] [] I12 L12 r12) ∧ (¬ v12 = 0 → rt_AW G (d + 7) kX12_tide Q 28 [some (.ref 108), some (.int (nI (i + 1))), some (.int 1), none] [] I12 L12 r12))))) := by
      intro J' p' q hq hR' hM' hp'
      have hq' : rnF (ch f l) p = (q, none) := by rw [← hf]; exact hq
      have hql := rnF_lim hp hq'
      rw [hq] at hQ0
      dsimp only at hQ0
      have hwq : wok (some q) := fun x e => by cases e; omega
      have ex : rt_AW G (d + 7) kX12_tide Q 28 [some (.ref 108), some (.int (nI (i + 1))), some (.int 0), none] [] (mp J' p' (some q)) L 114 := by
        refine tdm_exit hM' hn (by omega) hwq (fun y => by cases y) (fun q' e => ?_)
        have e2 : q' = q := by
          unfold endw at e
          split at e
          · cases e; rfl
          · cases e; rfl
        subst e2
        exact hQ0 J' q' p' rfl hM'
      exact ⟨fun _ => ex, fun _ => b_passes hR' (by omega) hwq (fun y => by cases y) (fun _ => ⟨fun _ => ex, fun x => absurd rfl x⟩)⟩
    obtain ⟨r1, q1⟩ : ∃ r1, r1 = nbR c 2 60 p none := ⟨_, rfl⟩
    have ok1 := nbR_ok (c := c) (lo := 2) (hi := 60) (p := p) wokn (by omega)
    have le1 := nbR_le (c := c) (lo := 2) (hi := 60) (p := p) (w := none)
    rw [← q1] at ok1 le1
    refine b_numb hR (by omega) wokn ?_
    rw [← q1]
    simp (disch := omega) only [n3, na1, na2, vpT, clT, true_and]
    rw [mp_u _ _ 118 _ _ _ (Or.inl (by decide))]
    have hR1 := hR.u (x := 118) (j := 3 * i) (v := r1.1) (by decide) (Or.inl (by decide))
    obtain ⟨r2, q2⟩ : ∃ r2, r2 = neR c 42 r1.2.1 r1.2.2 := ⟨_, rfl⟩
    have ok2 := neR_ok (c := c) (x := 42) (p := r1.2.1) ok1 (by omega)
    rw [← q2] at ok2
    refine b_need hR1 (by omega) ok1 ?_
    rw [← q2]
    obtain ⟨r3, q3⟩ : ∃ r3, r3 = nbR c 0 60 r2.1 r2.2 := ⟨_, rfl⟩
    have ok3 := nbR_ok (c := c) (lo := 0) (hi := 60) (p := r2.1) ok2.1 (by omega)
    have le3 := nbR_le (c := c) (lo := 0) (hi := 60) (p := r2.1) (w := r2.2)
    rw [← q3] at ok3 le3
    refine b_numb hR1 (by omega) ok2.1 ?_
    rw [← q3, mp_u _ _ 118 _ _ _ (Or.inl (by decide))]
    have hR2 := hR1.u (x := 118) (j := 3 * i + 1) (v := r3.1) (by decide) (Or.inl (by decide))
    have fin : ∀ (v : Int32), RB c l (rt_u (rt_u (rt_u J 118 (3 * i) r1.1) 118 (3 * i + 1) r3.1) 118 (3 * i + 2) v) ∧ MFt I (rt_u (rt_u (rt_u J 118 (3 * i) r1.1) 118 (3 * i + 1) r3.1) 118 (3 * i + 2) v) n ∧
        ∀ j, j < 3 * (i + 1) → (rt_u (rt_u (rt_u J 118 (3 * i) r1.1) 118 (3 * i + 1) r3.1) 118 (3 * i + 2) v) 118 j = td3 td (i * 3) (r1.1, r3.1, v) j := by
      intro v
      refine ⟨hR2.u (by decide) (Or.inl (by decide)), hM.w.w.w, fun j hj => ?_⟩
      rw [rt_u_eq, rt_u_eq, rt_u_eq, show 3 * i = i * 3 from by omega]
      exact td3_ag (t := (r1.1, r3.1, v)) (fun j hj => htd j hj) j hj
    refine b_passes hR2 (by omega) ok3 (fun y1 y2 => ⟨fun z => absurd z (by decide), fun _ => ?_⟩) (fun y => ⟨fun _ => ?_, fun z => absurd rfl z⟩)
    · obtain ⟨r4, q4⟩ : ∃ r4, r4 = nbR c 0 59 (r3.2.1 + 1) none := ⟨_, rfl⟩
      have le4 := nbR_le (c := c) (lo := 0) (hi := 59) (p := r3.2.1 + 1) (w := none)
      rw [← q4] at le4
      rw [y1]
      refine b_numb hR2 (by omega) wokn ?_
      rw [← q4, mp_u _ _ 118 _ _ _ (Or.inl (by decide))]
      obtain ⟨f1, f2, f3⟩ := fin r4.1
      rcases tide_a q1 q2 q3 ⟨y1, y2⟩ q4 with ⟨q, a1, a2⟩ | ⟨a1, a2⟩
      · rw [a2]
        exact fail _ _ q a1 f1 f2 (by omega)
      · rw [a2]
        exact good _ _ _ a1 f1 f2 f3
    · rw [mp_u _ _ 118 _ _ _ (Or.inl (by decide))]
      obtain ⟨f1, f2, f3⟩ := fin 0
      rcases tide_b q1 q2 q3 y with ⟨q, a1, a2⟩ | ⟨a1, a2⟩
      · rw [a2]
        exact fail _ _ q a1 f1 f2 (by omega)
      · rw [a2]
        exact good _ _ _ a1 f1 f2 f3
theorem tdm_copy {k : Nat} {r : Nat} (hk : k ≤ 3) (hQ : ∀ M, Fr M I [108, 113] → F8 M I [7] → M 108 7 = nI k → (∀ j, j < 3 * k → M 113 j = I 118 j) → Q (nI k) M L r) : rt_AW G (d + 1) kX12_tide Q 168 [some (.ref 108), some (.int (nI k)), none, some (.int 0)] [] I L r := by
  refine rt_loop (P := fun i => ∀ M, Fr M I [108, 113] → F8 M I [7] → (∀ j, j < i → M 113 j = I 118 j) → rt_AW G (d + 1) kX12_tide Q 168 [some (.ref 108), some (.int (nI k)), none, some (.int (nI i))] [] M L r) (3 * k) ?_ ?_ I (Fr.refl _ _) (F8.refl _ _) (fun j hj => absurd hj (by omega))
  · intro M hF h8 h
    refine v_X12_tide_168 _ _ _ _ _ ⟨fun _ => ?_, fun z => absurd (by rw [n3]; exact Int32.le_refl _) z⟩
    exact hQ _ (hF.u (by decide)) (h8.u (fun _ => by decide)) rt_u_at (fun j hj => by rw [rt_u_ne (by decide)]; exact h j hj)
  · intro i hi ih M hF h8 h
    refine v_X12_tide_168 _ _ _ _ _ ⟨fun z => ?_, fun _ => ?_⟩
    · have := (n_le (a := 3 * k) (b := i) (n3 k) rfl (by omega) (by omega)).mp z
      omega
    · have e118 : M 118 = I 118 := hF 118 (by decide)
      simp (disch := omega) only [vpT, clT, true_and, na1]
      refine ih _ (hF.u (by decide)) (h8.u (fun z => absurd z (by decide))) (fun j hj => ?_)
      by_cases e : j = i
      · subst e; rw [rt_u_at, e118]
      · rw [rt_u1 e]; exact h j (by omega)
end
section
variable {G : rt_G} {d : Nat} {Q : rt_Q} {I : rt_I} {L : rt_L} {r : Nat}
variable {B : Nat} {s : SV} {m : MO} {us : List MO} {kp : Nat → Option MO} {mk : MKT} {row : List Int32} {tx : TXT}
theorem txc_end {k p : Nat} (hT : tok tx) (h : txc tx k p = -1) : min tx.1 k ≤ p := by
  rcases Nat.lt_or_ge p (min tx.1 k) with z | z
  · unfold txc ch at h
    rw [if_pos z] at h
    obtain ⟨b, hb, e⟩ := hT.2 p (by omega)
    rw [e] at h
    exact absurd h (n_ne1 (by omega))
  · exact z
theorem fM_tide (h : MI B s m us kp mk row tx I) (hT : tok tx) (hQ : ∀ M r', MI (B + 1) (fTide s tx).2 m us kp mk row (0, tx.2) M → Lo M I → M 108 14 = 0 → Q (fTide s tx).1 M L r') : rt_Call G (d + 7) kX12_tide [.ref 108] I L r Q := by
  obtain ⟨hn, hch, hby⟩ := h.2.2.2.2.2.2
  have h80 := hT.1
  refine v_X12_tide _ _ _ (v_X12_begin_t _ _ _ _ _ ?_)
  rw [hn]
  obtain ⟨l, hl⟩ : ∃ l, l = min tx.1 80 := ⟨_, rfl⟩
  obtain ⟨J, hJ⟩ : ∃ J, J = rt_u (rt_u (rt_u (rt_u I 108 14 0) 108 16 (nI tx.1)) 108 17 80) 108 11 0 := ⟨_, rfl⟩
  have eS : rt_u (rt_u (rt_u (rt_u (rt_u (rt_u I 108 14 0) 108 16 (nI tx.1)) 108 17 80) 108 18 0) 108 19 (-1)) 108 11 0 = mp J 0 none := by
    rw [hJ, ← mp_u _ _ 108 11 _ _ (Or.inr ⟨by decide, by decide⟩)]
    rfl
  have hFJ : Fr J I [108, 118] := by rw [hJ]; exact ((((Fr.refl I _).u (by decide)).u (by decide)).u (by decide)).u (by decide)
  have h8J : F8 J I [11, 14, 16, 17, 18, 19] := by rw [hJ]; exact ((((F8.refl I _).u (fun _ => by decide)).u (fun _ => by decide)).u (fun _ => by decide)).u (fun _ => by decide)
  have hMF : MFt I J tx.1 := ⟨hFJ, h8J, by rw [hJ]; rfl, by rw [hJ]; rfl, by rw [hJ]; rfl⟩
  have e114 : J 114 = I 114 := hFJ 114 (by decide)
  have hRB : RB (txc tx 80) l J := by
    refine ⟨⟨rfl, Or.inl ⟨rfl, by omega⟩, tx.1, 80, by rw [hJ]; rfl, by rw [hJ]; rfl, hl, by omega, by omega⟩, fun i => by rw [e114]; exact hby i, ?_, c8_tx hT 80⟩
    unfold mch txc
    rw [e114, ← hl]
    exact ch_agr (n := tx.1) hch (by omega)
  rw [eS]
  refine tdm_loop (d := d) (by omega) (by omega) (by omega) ⟨tx.2, by unfold txc; rw [hl]⟩ 3 0 0 (fun _ => 0) J (by omega) (by omega) hRB hMF (fun j hj => absurd hj (by omega)) (by omega) (fun J' q k td he hce hql hk hM' h118 => ?_) (fun J' q p' he hM' => ?_)
  · rw [fTide_t he] at hQ
    dsimp only at hQ
    have hq := txc_end hT hce
    refine tdm_exit hM' (by omega) (by omega) wokn (fun _ _ => ?_) (fun q' e => ?_)
    rotate_left
    · unfold endw at e
      rw [if_neg (by omega)] at e
      cases e
    have a1 := hM'.1.mp (p := q) (w := none) (by decide)
    have a2 := hM'.2.1.mp (p := q) (w := none) (by decide) (by decide)
    refine tdm_copy hk (fun M b1 b2 b3 b4 => ?_)
    have hf : Fr M I [108, 113, 118] := (b1.mono (by decide)).trans (a1.mono (by decide))
    have h8 : F8 M I [7, 11, 14, 16, 17, 18, 19] := (b2.mono (by decide)).trans (a2.mono (by decide))
    obtain ⟨⟨z1, z2, z3, z4, z5, z6, z7, z8, z9, z10, z11⟩, y2, y3, y4, y5, y6, y7⟩ := h
    have e3 := y3.fr (h8 31 (by decide)) (hf 122 (by decide))
    obtain ⟨cm, c1, c2⟩ := y4.fr (h8 52 (by decide)) (hf 132 (by decide)) (hf 133 (by decide)) (hf 134 (by decide))
    have s11 : M 108 11 = 0 := (b2 11 (by decide)).trans hM'.2.2.1
    have s14 : M 108 14 = 0 := (b2 14 (by decide)).trans hM'.2.2.2.1
    refine hQ M 114 ⟨⟨(h8 1 (by decide)).trans z1, (h8 3 (by decide)).trans z2, (h8 6 (by decide)).trans z3, b3, fun j hj => ?_, by rw [hf 110 (by decide)]; exact z6, by rw [hf 111 (by decide)]; exact z7, by rw [hf 112 (by decide)]; exact z8, z9.fr (h8 27 (by decide)) (hf 120 (by decide)), (h8 9 (by decide)).trans z10, (h8 28 (by decide)).trans z11⟩, by rw [hf 109 (by decide)]; exact y2, e3, ⟨cm, by omega, c2⟩, y5.fr (h8 48 (by decide)) (hf 129 (by decide)), y6.fr (h8 13 (by decide)) (hf 115 (by decide)), s11, fun j hj => absurd hj (by omega), fun i => by rw [hf 114 (by decide)]; exact y7.2.2 i⟩ (hf.lo (by decide)) s14
    have hj2 : j < 3 * k := hj
    rw [b4 j hj2]
    exact h118 j hj2
  · rw [fTide_f he] at hQ
    have a1 := hM'.1.mp (p := p') (w := some q) (by decide)
    exact hQ _ 114 (h.txq (a1.mono (by decide)) ((hM'.2.1.mp (by decide) (by decide)).mono (by decide)) hM'.2.2.1) (a1.lo (by decide)) hM'.2.2.2.1
end
