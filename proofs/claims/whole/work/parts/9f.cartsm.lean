/-! carts(): the model -/
def MFc (I J : rt_I) (n : Nat) : Prop := Fr J I [108, 119] ∧ F8 J I [11, 14, 16, 17, 18, 19] ∧ J 108 11 = 0 ∧ J 108 14 = 0 ∧ J 108 16 = nI n
theorem MFc.w {I J : rt_I} {n j : Nat} {v : Int32} (h : MFc I J n) : MFc I (rt_u J 119 j v) n :=
  ⟨h.1.u (by decide), h.2.1.u (fun z => absurd z (by decide)), h.2.2.1, h.2.2.2.1, h.2.2.2.2⟩
def MDc (s : SV) (D : CFT) (I J : rt_I) (n : Nat) : Prop := MFc I J n ∧ ∀ k, k < D.1 - s.nc → J 119 (3 * k) = D.2 ((s.nc + k) * 8) ∧ J 119 (3 * k + 1) = D.2 ((s.nc + k) * 8 + 4) ∧ J 119 (3 * k + 2) = D.2 ((s.nc + k) * 8 + 5)
section
variable {c : Nat → Int32} {np p : Nat} {D : CFT} {r1 r2 : RR}
theorem car_pre (z : ¬ 5 ≤ D.1) (e1 : r1 = ofR c np (-1) p none) (e2 : r2 = dfR c 0 r1.2.1 r1.2.2) :
    (∃ q, caF c np p D = (q, none) ∧ r2.2.2 = some q) ∨ (r1 = (c p - 97, p + 1, none) ∧ r2 = (c (p + 1) - 48, p + 2, none) ∧ inb (c p - 97) np = true ∧ dg (c (p + 1)) = true) := by
  by_cases y1 : inb (c p - 97) np = true
  rotate_left
  · rw [ofR_f (fun y => y1 y.1)] at e1
    subst e1
    rw [show dfR c 0 _ _ = _ from dfR_q] at e2
    subst e2
    exact Or.inl ⟨p, by unfold caF; rw [if_neg z, if_pos y1], rfl⟩
  have hne : ¬ c p - 97 = -1 := fun e => by rw [e] at y1; cases y1
  rw [ofR_t ⟨y1, hne⟩] at e1
  subst e1
  by_cases y2 : dg (c (p + 1)) = true
  rotate_left
  · have y2' : ¬ dgl (c (p + 1)) 0 = true := by rw [dgl_0]; exact y2
    rw [show dfR c 0 _ _ = _ from dfR_f y2'] at e2
    subst e2
    exact Or.inl ⟨p + 1, by unfold caF; rw [if_neg z, if_neg (not_not_intro y1), if_pos y2], rfl⟩
  have y2' : dgl (c (p + 1)) 0 = true := by rw [dgl_0]; exact y2
  rw [show dfR c 0 _ _ = _ from dfR_t y2'] at e2
  exact Or.inr ⟨rfl, e2, y1, y2⟩
theorem car_a (z : ¬ 5 ≤ D.1) (e1 : r1 = ofR c np (-1) p none) (e2 : r2 = dfR c 0 r1.2.1 r1.2.2) (h : r2.2.2 = none ∧ c r2.2.1 = 42) :
    caF c np p D = (r2.2.1 + 1, some (D.1 + 1, e8 D.2 (D.1 * 8) r1.1 r2.1 1)) := by
  rcases car_pre z e1 e2 with ⟨q, _, a2⟩ | ⟨a1, a2, a3, a4⟩
  · rw [a2] at h
    cases h.1
  · rw [a1, a2]
    rw [a2] at h
    unfold caF
    rw [if_neg z, if_neg (not_not_intro a3), if_neg (not_not_intro a4), if_pos h.2]
theorem car_b (z : ¬ 5 ≤ D.1) (e1 : r1 = ofR c np (-1) p none) (e2 : r2 = dfR c 0 r1.2.1 r1.2.2) (h : ¬ (r2.2.2 = none ∧ c r2.2.1 = 42)) :
    (∃ q, caF c np p D = (q, none) ∧ r2.2.2 = some q) ∨ (caF c np p D = (r2.2.1, some (D.1 + 1, e8 D.2 (D.1 * 8) r1.1 r2.1 0)) ∧ r2.2.2 = none) := by
  rcases car_pre z e1 e2 with ⟨q, a1, a2⟩ | ⟨a1, a2, a3, a4⟩
  · exact Or.inl ⟨q, a1, a2⟩
  · right
    rw [a1, a2]
    rw [a2] at h
    refine ⟨?_, rfl⟩
    unfold caF
    rw [if_neg z, if_neg (not_not_intro a3), if_neg (not_not_intro a4), if_neg (fun e => h ⟨rfl, e⟩)]
end
section
variable {G : rt_G} {d : Nat} {Q : rt_Q} {I J : rt_I} {L : rt_L} {l p n : Nat} {w : Option Nat} {c : Nat → Int32} {s : SV} {m : MO}
theorem cam_exit {k : Nat} (hF : MFc I J n) (hn : n < 1000) (hp : p < 1000) (hw : wok w) (hok : w = none → n ≤ p → rt_AW G (d + 7) kX12_carts Q 175 [some (.ref 108), some (.int (nI k)), none, some (.int 0), none] [] (mp J p none) L 114) (hbad : ∀ q, endw n p w = some q → Q (-1 - nI q) (mp J p (some q)) L 114) : rt_AW G (d + 7) kX12_carts Q 37 [some (.ref 108), some (.int (nI k)), some (.int 0), none, none] [] (mp J p w) L 114 := by
  have e16 : (mp J p w) 108 16 = nI n := hF.2.2.2.2
  refine v_X12_carts_37 _ _ _ _ _ ⟨fun _ => ⟨fun z => ?_, fun z => ?_⟩, fun z => absurd rfl z⟩
  · have z2 := (n_le (a := n) (b := p) e16 rfl (by omega) (by omega)).mp z
    refine sX12_fine hw (fun y => ⟨fun _ => ?_, fun x => absurd x (by decide)⟩) (fun y => ⟨fun x => absurd rfl x, fun _ => ?_⟩)
    · subst y
      exact hok rfl z2
    · cases w with
      | none => exact absurd rfl y
      | some q => exact hbad q (by unfold endw; rw [if_neg (by omega)])
  · have z2 := mt (n_le (a := n) (b := p) e16 rfl (by omega) (by omega)).mpr z
    refine sX12_fault (q := p) hw (sX12_fine (wok_or hw hp) (fun y => ?_) (fun y => ⟨fun x => absurd rfl x, fun _ => ?_⟩))
    · cases w <;> cases y
    · cases w with
      | none => exact hbad p (by unfold endw; rw [if_pos (by omega)]; rfl)
      | some q => exact hbad q (by unfold endw; rw [if_pos (by omega)]; rfl)
theorem cam_loop (h40 : l ≤ 40) (hln : l ≤ n) (hn : n < 1000) (hnp : s.np ≤ 8) (hs1 : I 108 1 = nI s.np) (hs6 : I 108 6 = nI s.nc) (hcl : ∃ f, c = ch f l) : ∀ (F p k : Nat) (D : CFT) (J : rt_I), RB c l J → MDc s D I J n → dkc s m D → p ≤ l → 81 ≤ p + F → k = D.1 - s.nc + 1 →
    (∀ J' q k' D', casF c s.np F p k D = (q, some (k', D')) → MDc s D' I J' n → dkc s m D' → q ≤ l → k' = D'.1 - s.nc → rt_AW G (d + 7) kX12_carts Q 37 [some (.ref 108), some (.int (nI (D'.1 - s.nc))), some (.int 0), none, none] [] (mp J' q none) L 114) →
    (∀ J' q p', casF c s.np F p k D = (q, none) → MFc I J' n → Q (-1 - nI q) (mp J' p' (some q)) L 114) →
    rt_AW G (d + 7) kX12_carts Q 37 [some (.ref 108), some (.int (nI (D.1 - s.nc))), some (.int 1), none, none] [] (mp J p none) L 114 := by
  intro F
  induction F with
  | zero => intro p k D J _ _ _ _ _ _ _; omega
  | succ F ih =>
    intro p k D J hR hM hk hp hF hkD hQ1 hQ0
    obtain ⟨f, hf⟩ := hcl
    obtain ⟨k1, k2, k3, k4⟩ := id hk
    rw [casF_s] at hQ1 hQ0
    have good : ∀ J' q D', caF c s.np p D = (q, some D') → RB c l J' → MDc s D' I J' n →
        rt_Call G (d + 6) kX12_passes [.ref 108, .int 59] (mp J' q none) L 114 (fun v I' L' r' => rt_AW G (d + 7) kX12_carts Q 37 [some (.ref 108), some (.int (nI (D.1 - s.nc + 1))), some (.int v), none, none] [] I' L' r') := by
      intro J' q D' hq hR' hM'
      have hq' : caF (ch f l) s.np p D = (q, some D') := by rw [← hf]; exact hq
      obtain ⟨q1, q2, q3⟩ := caF_pos hp hq'
      have q4 := q3 (by simp)
      obtain ⟨hk', hD'⟩ := caF_ok hR.2.2.2 hnp hk hq
      have eD : D.1 - s.nc + 1 = D'.1 - s.nc := by omega
      rw [eD]
      rw [hq] at hQ1 hQ0
      dsimp only at hQ1 hQ0
      refine b_passes hR' (by omega) wokn (fun _ y => ?_) (fun y => ?_)
      · have hlt := ch_in (f := f) (l := l) (p := q) (by rw [← hf, y]; decide)
        rw [if_pos y] at hQ1 hQ0
        exact ih (q + 1) (k + 1) D' J' hR' hM' hk' (by omega) (by omega) (by omega) hQ1 hQ0
      · have y1 : ¬ c q = 59 := fun e => y ⟨rfl, e⟩
        rw [if_neg y1] at hQ1 hQ0
        by_cases y2 : c q = -1
        · rw [if_pos y2] at hQ1
          exact hQ1 J' q k D' rfl hM' hk' q1 (by omega)
        · rw [if_neg y2] at hQ0
          have hlt := ch_in (f := f) (l := l) (p := q) (by rw [← hf]; exact y2)
          refine cam_exit hM'.1 hn (by omega) wokn (fun _ x => absurd x (by omega)) (fun q' e => ?_)
          unfold endw at e
          rw [if_pos (by omega)] at e
          cases e
          exact hQ0 J' q q rfl hM'.1
    have fail : ∀ J' p' q, caF c s.np p D = (q, none) → RB c l J' → MFc I J' n → p' < 900 →
        rt_Call G (d + 6) kX12_passes [.ref 108, .int 59] (mp J' p' (some q)) L 114 (fun v I' L' r' => rt_AW G (d + 7) kX12_carts Q 37 [some (.ref 108), some (.int (nI (D.1 - s.nc + 1))), some (.int v), none, none] [] I' L' r') := by
      intro J' p' q hq hR' hM' hp'
      have hq' : caF (ch f l) s.np p D = (q, none) := by rw [← hf]; exact hq
      obtain ⟨q1, q2, -⟩ := caF_pos hp hq'
      rw [hq] at hQ0
      have hwq : wok (some q) := fun x e => by cases e; omega
      refine b_passes hR' (by omega) hwq (fun y => by cases y) (fun _ => ?_)
      refine cam_exit hM' hn (by omega) hwq (fun y => by cases y) (fun q' e => ?_)
      have e2 : q' = q := by
        unfold endw at e
        split at e
        · cases e; rfl
        · cases e; rfl
      subst e2
      exact hQ0 J' q' p' rfl hM'
    have J6 : (mp J p none) 108 6 = nI s.nc := (hM.1.2.1 6 (by decide)).trans hs6
    have J1 : (mp J p none) 108 1 = nI s.np := (hM.1.2.1 1 (by decide)).trans hs1
    have eC : (mp J p none) 108 6 + nI (D.1 - s.nc) = nI D.1 := by
      rw [J6, nI_add]
      exact congrArg nI (by omega)
    refine v_X12_carts_37 _ _ _ _ _ ⟨fun z => absurd z (by decide), fun _ => sX12_fine wokn (fun _ => ⟨fun z => absurd z (by decide), fun _ => ⟨fun z => ?_, fun z => ?_⟩⟩) (fun z => absurd rfl z)⟩
    rotate_left
    · have z2 : D.1 = 5 := (n_eq (a := D.1) (b := 5) eC rfl (by omega) (by omega)).mp z
      refine sX12_fault (q := p) wokn ?_
      rw [nI_1]
      exact fail J p p (by unfold caF; rw [if_pos (by omega)]) hR hM.1 (by omega)
    have z2 : ¬ D.1 = 5 := mt (n_eq (a := D.1) (b := 5) eC rfl (by omega) (by omega)).mpr z
    have z5 : ¬ 5 ≤ D.1 := by omega
    obtain ⟨r1, q1⟩ : ∃ r1, r1 = ofR c s.np (-1) p none := ⟨_, rfl⟩
    have ok1 := ofR_ok (c := c) (k := s.np) (p := p) (b := -1) wokn (by omega)
    rw [← q1] at ok1
    refine b_oneOf hR hnp J1 (by omega) wokn ?_
    rw [← q1]
    simp (disch := omega) only [n3, na1, na2, vpT, clT, true_and]
    rw [mp_u _ _ 119 _ _ _ (Or.inl (by decide))]
    have hR1 := hR.u (x := 119) (j := 3 * (D.1 - s.nc)) (v := r1.1) (by decide) (Or.inl (by decide))
    obtain ⟨r2, q2⟩ : ∃ r2, r2 = dfR c 0 r1.2.1 r1.2.2 := ⟨_, rfl⟩
    have ok2 := dfR_ok (c := c) (k := 0) (p := r1.2.1) ok1.1 (by omega)
    rw [← q2] at ok2
    refine b_digit (k := 0) hR1 (by omega) rfl (by omega) ok1.1 ?_
    rw [← q2, mp_u _ _ 119 _ _ _ (Or.inl (by decide))]
    have hR2 := hR1.u (x := 119) (j := 3 * (D.1 - s.nc) + 1) (v := r2.1) (by decide) (Or.inl (by decide))
    have fin : ∀ v, RB c l (rt_u (rt_u (rt_u J 119 (3 * (D.1 - s.nc)) r1.1) 119 (3 * (D.1 - s.nc) + 1) r2.1) 119 (3 * (D.1 - s.nc) + 2) v) ∧ MDc s (D.1 + 1, e8 D.2 (D.1 * 8) r1.1 r2.1 v) I (rt_u (rt_u (rt_u J 119 (3 * (D.1 - s.nc)) r1.1) 119 (3 * (D.1 - s.nc) + 1) r2.1) 119 (3 * (D.1 - s.nc) + 2) v) n := by
      intro v
      refine ⟨hR2.u (by decide) (Or.inl (by decide)), hM.1.w.w.w, fun k hk2 => ?_⟩
      have hk3 : k < D.1 + 1 - s.nc := hk2
      show _ = e8 D.2 (D.1 * 8) r1.1 r2.1 v _ ∧ _ = e8 D.2 (D.1 * 8) r1.1 r2.1 v _ ∧ _ = e8 D.2 (D.1 * 8) r1.1 r2.1 v _
      by_cases ek : k = D.1 - s.nc
      · have eb : (s.nc + k) * 8 = D.1 * 8 := by rw [ek]; omega
        rw [eb]
        have a0 := e8_at (e := D.2) (b := D.1 * 8) (x := r1.1) (l := r2.1) (h := v) 0 (by omega)
        rw [Nat.add_zero] at a0
        rw [a0, e8_at 4 (by omega), e8_at 5 (by omega), ek]
        refine ⟨?_, ?_, ?_⟩
        · rw [rt_u1 (by omega), rt_u1 (by omega), rt_u_at]; rfl
        · rw [rt_u1 (by omega), rt_u_at]; rfl
        · rw [rt_u_at]; rfl
      · obtain ⟨w1, w2, w3⟩ := hM.2 k (by omega)
        rw [e8_lo (by omega), e8_lo (by omega), e8_lo (by omega)]
        refine ⟨?_, ?_, ?_⟩
        · rw [rt_u1 (by omega), rt_u1 (by omega), rt_u1 (by omega)]; exact w1
        · rw [rt_u1 (by omega), rt_u1 (by omega), rt_u1 (by omega)]; exact w2
        · rw [rt_u1 (by omega), rt_u1 (by omega), rt_u1 (by omega)]; exact w3
    refine b_passes hR2 (by omega) ok2.1 (fun y1 y2 => ⟨fun z => absurd z (by decide), fun _ => ?_⟩) (fun y => ⟨fun _ => ?_, fun z => absurd rfl z⟩)
    · rw [mp_u _ _ 119 _ _ _ (Or.inl (by decide)), y1]
      obtain ⟨f1, f2⟩ := fin 1
      exact good _ _ _ (car_a z5 q1 q2 ⟨y1, y2⟩) f1 f2
    · rw [mp_u _ _ 119 _ _ _ (Or.inl (by decide))]
      obtain ⟨f1, f2⟩ := fin 0
      rcases car_b z5 q1 q2 y with ⟨q, a1, a2⟩ | ⟨a1, a2⟩
      · rw [a2]
        exact fail _ _ q a1 f1 f2.1 (by omega)
      · rw [a2]
        exact good _ _ _ a1 f1 f2
theorem cam_put {a b : Nat} {r : Nat} (h6 : I 108 6 = nI a) (hab : a + b ≤ 5)
    (hQ : ∀ M, Fr M I [108, 109] → F8 M I [6, 31, 52] → M 108 6 = nI (a + b) → M 108 31 = 0 → M 108 52 = I 108 52 + 1 →
      (∀ j, j < b → ∀ t, t < 8 → M 109 ((a + j) * 8 + t) = v8 (I 119 (3 * j)) (I 119 (3 * j + 1)) (I 119 (3 * j + 2)) t) → (∀ j, (j < a * 8 ∨ 40 ≤ j) → M 109 j = I 109 j) → Q (nI b) M L r) : rt_AW G (d + 1) kX12_carts Q 175 [some (.ref 108), some (.int (nI b)), none, some (.int 0), none] [] I L r := by
  refine rt_loop (P := fun i => ∀ M, Fr M I [108, 109] → F8 M I [6] → M 108 6 = nI (a + i) →
      (∀ j, j < i → ∀ t, t < 8 → M 109 ((a + j) * 8 + t) = v8 (I 119 (3 * j)) (I 119 (3 * j + 1)) (I 119 (3 * j + 2)) t) → (∀ j, (j < a * 8 ∨ 40 ≤ j) → M 109 j = I 109 j) →
      rt_AW G (d + 1) kX12_carts Q 175 [some (.ref 108), some (.int (nI b)), none, some (.int (nI i)), none] [] M L r) b ?_ ?_ I (Fr.refl _ _) (F8.refl _ _) h6 (fun j hj => absurd hj (by omega)) (fun _ _ => rfl)
  · intro M hF h8 e1 e2 e3
    refine v_X12_carts_175 _ _ _ _ _ ⟨fun _ => ?_, fun z => absurd (Int32.le_refl _) z⟩
    rw [h8 52 (by decide)]
    refine hQ _ ((hF.u (by decide)).u (by decide)) (((h8.mono (by decide)).u (fun _ => by decide)).u (fun _ => by decide)) ?_ ?_ rt_u_at (fun j hj t ht => ?_) (fun j hj => ?_)
    · rw [rt_u1 (by decide), rt_u1 (by decide)]; exact e1
    · rw [rt_u1 (by decide), rt_u_at]
    · rw [rt_u_ne (by decide), rt_u_ne (by decide)]; exact e2 j hj t ht
    · rw [rt_u_ne (by decide), rt_u_ne (by decide)]; exact e3 j hj
  · intro i hi ih M hF h8 e1 e2 e3
    refine v_X12_carts_175 _ _ _ _ _ ⟨fun z => ?_, fun _ => ?_⟩
    · have := (n_le (a := b) (b := i) rfl rfl (by omega) (by omega)).mp z
      omega
    · have e119 : M 119 = I 119 := hF 119 (by decide)
      rw [e1, e119]
      simp (disch := omega) only [n3, n8, na1, na2, na4, na5, na6, na7, vpT, clT, true_and]
      refine v_X12_stand_now _ _ _ _ _ ?_
      simp (disch := omega) only [na1, na2, na3, vpT, clT, true_and]
      obtain ⟨W, hW⟩ : ∃ W, W = rt_u (rt_u (rt_u (rt_u M 109 ((a + i) * 8) (I 119 (3 * i))) 109 ((a + i) * 8 + 1) (-1)) 109 ((a + i) * 8 + 2) (-1)) 109 ((a + i) * 8 + 3) 0 := ⟨_, rfl⟩
      have W6 : W 108 6 = nI (a + i) := by rw [hW, rt_u2 (by decide), rt_u2 (by decide), rt_u2 (by decide), rt_u2 (by decide)]; exact e1
      have W119 : W 119 = I 119 := by rw [hW, rt_u_ne (by decide), rt_u_ne (by decide), rt_u_ne (by decide), rt_u_ne (by decide)]; exact e119
      rw [← hW, W6, W119, nI_1]
      have hFW : Fr W I [108, 109] := by rw [hW]; exact (((hF.u (by decide)).u (by decide)).u (by decide)).u (by decide)
      have h8W : F8 W I [6] := by rw [hW]; exact (((h8.u (fun z => absurd z (by decide))).u (fun z => absurd z (by decide))).u (fun z => absurd z (by decide))).u (fun z => absurd z (by decide))
      refine ih _ (((((hFW.u (by decide)).u (by decide)).u (by decide)).u (by decide)).u (by decide)) (((((h8W.u (fun z => absurd z (by decide))).u (fun z => absurd z (by decide))).u (fun z => absurd z (by decide))).u (fun z => absurd z (by decide))).u (fun _ => by decide)) rt_u_at (fun j hj t ht => ?_) (fun j hj => ?_)
      · rw [rt_u2 (by decide)]
        by_cases e : j = i
        · subst e
          match t with
          | 0 => rw [rt_u1 (by omega), rt_u1 (by omega), rt_u1 (by omega), rt_u1 (by omega), hW, rt_u1 (by omega), rt_u1 (by omega), rt_u1 (by omega)]; exact rt_u_at
          | 1 => rw [rt_u1 (by omega), rt_u1 (by omega), rt_u1 (by omega), rt_u1 (by omega), hW, rt_u1 (by omega), rt_u1 (by omega), rt_u_at]; rfl
          | 2 => rw [rt_u1 (by omega), rt_u1 (by omega), rt_u1 (by omega), rt_u1 (by omega), hW, rt_u1 (by omega), rt_u_at]; rfl
          | 3 => rw [rt_u1 (by omega), rt_u1 (by omega), rt_u1 (by omega), rt_u1 (by omega), hW, rt_u_at]; rfl
          | 4 => rw [rt_u1 (by omega), rt_u1 (by omega), rt_u1 (by omega), rt_u_at]; rfl
          | 5 => rw [rt_u1 (by omega), rt_u1 (by omega), rt_u_at]; rfl
          | 6 => rw [rt_u1 (by omega), rt_u_at]; rfl
          | 7 => rw [rt_u_at]; rfl
          | t + 8 => omega
        · rw [rt_u1 (by omega), rt_u1 (by omega), rt_u1 (by omega), rt_u1 (by omega), hW, rt_u1 (by omega), rt_u1 (by omega), rt_u1 (by omega), rt_u1 (by omega)]
          exact e2 j (by omega) t ht
      · rw [rt_u2 (by decide), rt_u1 (by omega), rt_u1 (by omega), rt_u1 (by omega), rt_u1 (by omega), hW, rt_u1 (by omega), rt_u1 (by omega), rt_u1 (by omega), rt_u1 (by omega)]
        exact e3 j hj
end
