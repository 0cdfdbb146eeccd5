/-! flats(): the model -/
section
variable {G : rt_G} {d : Nat} {Q : rt_Q} {I J : rt_I} {L : rt_L} {l p n : Nat} {w : Option Nat} {c : Nat → Int32} {s : SV} {m : MO} {D : DFT}
theorem flm_exit (hF : MF I J n) (hn : n < 1000) (hp : p < 1000) (hw : wok w) (hok : w = none → n ≤ p → rt_AW G (d + 7) kX12_flats Q 105 [some (.ref 108), none, some (.int 0)] [] (mp J p none) L 114) (hbad : ∀ q, endw n p w = some q → Q (-1 - nI q) (mp J p (some q)) L 114) : rt_AW G (d + 7) kX12_flats Q 45 [some (.ref 108), some (.int 0), none] [] (mp J p w) L 114 := by
  have e16 : (mp J p w) 108 16 = nI n := hF.2.2.2.2
  refine v_X12_flats_45 _ _ _ _ ⟨fun _ => ⟨fun z => ?_, fun z => ?_⟩, fun z => absurd rfl z⟩
  · have z2 := (n_le (a := n) (b := p) e16 rfl (by omega) (by omega)).mp z
    refine sX12_fine hw (fun y => ⟨fun _ => ?_, fun x => absurd x (by decide)⟩) (fun y => ⟨fun x => absurd rfl x, fun _ => ?_⟩)
    · subst y
      exact hok rfl z2
    · cases w with
      | none => exact absurd rfl y
      | some q => exact hbad q (by unfold endw; rw [if_neg (by omega)])
  · have z2 := mt (n_le (a := n) (b := p) e16 rfl (by omega) (by omega)).mpr z
    refine sX12_fault (q := p) hw (sX12_fine (wok_or hw hp) (fun y => ?_) (fun y => ⟨fun x => absurd rfl x, fun _ => ?_⟩))
    · cases w <;> cases y
    · cases w with
      | none => exact hbad p (by unfold endw; rw [if_pos (by omega)]; rfl)
      | some q => exact hbad q (by unfold endw; rw [if_pos (by omega)]; rfl)
theorem flm_loop (h76 : l ≤ 76) (hln : l ≤ n) (hn : n < 1000) (hs1 : I 108 1 = nI s.np) (hs3 : I 108 3 = nI s.nr) (hcl : ∃ f, c = ch f l) : ∀ (F p k : Nat) (D : DFT) (J : rt_I), RB c l J → MD s D I J n → dok s m D → p ≤ l → 81 ≤ p + F →
    (∀ J' q k' D', lnsF c F p k D = (q, some (k', D')) → MD s D' I J' n → dok s m D' → RB c l J' → q ≤ l → rt_AW G (d + 7) kX12_flats Q 45 [some (.ref 108), some (.int 0), none] [] (mp J' q none) L 114) →
    (∀ J' q p', lnsF c F p k D = (q, none) → MF I J' n → Q (-1 - nI q) (mp J' p' (some q)) L 114) →
    rt_AW G (d + 7) kX12_flats Q 45 [some (.ref 108), some (.int 1), none] [] (mp J p none) L 114 := by
  intro F
  induction F with
  | zero => intro p k D J _ _ _ _ _ _; omega
  | succ F ih =>
    intro p k D J hR hM hk hp hF hQ1 hQ0
    obtain ⟨f, hf⟩ := hcl
    refine v_X12_flats_45 _ _ _ _ ⟨fun z => absurd z (by decide), fun _ => sX12_fine wokn (fun _ => ⟨fun z => absurd z (by decide), fun _ => ?_⟩) (fun z => absurd rfl z)⟩
    refine sX12_readLine (d := d) hR hM hs1 hs3 hk (by omega) (fun J' q D' hq hM' hR' => ?_) (fun J' p' q hq hF' hR' hp' => ?_)
    · have hq' : lnF (ch f l) p D = (q, some D') := by rw [← hf]; exact hq
      obtain ⟨q1, q2, q3⟩ := lnF_pos hp hq'
      have q4 := q3 (by simp)
      obtain ⟨hk', -⟩ := lnF_ok hR.2.2.2 hk hq
      rw [lnsF_s, hq] at hQ1 hQ0
      dsimp only at hQ1 hQ0
      refine b_passes hR' (by omega) wokn (fun _ y => ?_) (fun y => ?_)
      · have hlt := ch_in (f := f) (l := l) (p := q) (by rw [← hf, y]; decide)
        rw [if_pos y] at hQ1 hQ0
        exact ih (q + 1) (k + 1) D' J' hR' hM' hk' (by omega) (by omega) hQ1 hQ0
      · have y1 : ¬ c q = 59 := fun e => y ⟨rfl, e⟩
        rw [if_neg y1] at hQ1 hQ0
        by_cases y2 : c q = -1
        · rw [if_pos y2] at hQ1
          exact hQ1 J' q k D' rfl hM' hk' hR' q1
        · rw [if_neg y2] at hQ0
          have hlt := ch_in (f := f) (l := l) (p := q) (by rw [← hf]; exact y2)
          refine flm_exit hM'.1 hn (by omega) wokn (fun _ x => absurd x (by omega)) (fun q' e => ?_)
          unfold endw at e
          rw [if_pos (by omega)] at e
          cases e
          exact hQ0 J' q q rfl hM'.1
    · have hq' : lnF (ch f l) p D = (q, none) := by rw [← hf]; exact hq
      obtain ⟨q1, q2, -⟩ := lnF_pos hp hq'
      rw [lnsF_s, hq] at hQ0
      have hwq : wok (some q) := fun x e => by cases e; omega
      refine b_passes hR' (by omega) hwq (fun y => by cases y) (fun _ => ?_)
      refine flm_exit hF' hn (by omega) hwq (fun y => by cases y) (fun q' e => ?_)
      have e2 : q' = q := by
        unfold endw at e
        split at e
        · cases e; rfl
        · cases e; rfl
      subst e2
      exact hQ0 J' q' p' rfl hF'
theorem lnsF_k {f : Nat → Int32} (hc : c8 c) : ∀ (F p k : Nat) (D : DFT) (q k' : Nat) (D' : DFT), dok s m D → lnsF c F p k D = (q, some (k', D')) → D'.np + D'.nr + k = D.np + D.nr + k' + 1 ∧ dok s m D' := by
  intro F
  induction F with
  | zero => intro p k D q k' D' _ h; cases h
  | succ F ih =>
    intro p k D q k' D' hk h
    rw [lnsF_s] at h
    cases hl : lnF c p D with
    | mk q1 o =>
      rw [hl] at h
      cases o with
      | none => cases h
      | some D1 =>
        dsimp only at h
        obtain ⟨hk1, e1⟩ := lnF_ok hc hk hl
        by_cases y : c q1 = 59
        · rw [if_pos y] at h
          obtain ⟨e2, e3⟩ := ih _ _ _ _ _ _ hk1 h
          exact ⟨by omega, e3⟩
        · rw [if_neg y] at h
          by_cases y2 : c q1 = -1
          · rw [if_pos y2] at h
            cases h
            exact ⟨by omega, hk1⟩
          · rw [if_neg y2] at h
            cases h
theorem flm_places {a b : Nat} {r : Nat} (h22 : I 108 22 = nI b) (h1 : I 108 1 = nI a) (hab : a + b ≤ 8)
    (hQ : ∀ M, Fr M I [108, 110] → F8 M I [1] → M 108 1 = nI (a + b) → (∀ j, j < b → M 110 (a + j) = I 116 j) → (∀ j, j < a → M 110 j = I 110 j) → rt_AW G (d + 1) kX12_flats Q 146 [some (.ref 108), none, some (.int 0)] [] M L r) : rt_AW G (d + 1) kX12_flats Q 105 [some (.ref 108), none, some (.int 0)] [] I L r := by
  refine rt_loop (P := fun i => ∀ M, Fr M I [108, 110] → F8 M I [1] → M 108 1 = nI (a + i) → (∀ j, j < i → M 110 (a + j) = I 116 j) → (∀ j, j < a → M 110 j = I 110 j) → rt_AW G (d + 1) kX12_flats Q 105 [some (.ref 108), none, some (.int (nI i))] [] M L r) b ?_ ?_ I (Fr.refl _ _) (F8.refl _ _) h1 (fun j hj => absurd hj (by omega)) (fun _ _ => rfl)
  · intro M hF h8 e1 e2 e3
    refine v_X12_flats_105 _ _ _ _ ⟨fun _ => hQ M hF h8 e1 e2 e3, fun z => absurd (by rw [h8 22 (by decide), h22]; exact Int32.le_refl _) z⟩
  · intro i hi ih M hF h8 e1 e2 e3
    refine v_X12_flats_105 _ _ _ _ ⟨fun z => ?_, fun _ => ?_⟩
    · have := (n_le (a := b) (b := i) ((h8 22 (by decide)).trans h22) rfl (by omega) (by omega)).mp z
      omega
    · have e116 : M 116 = I 116 := hF 116 (by decide)
      rw [e1]
      simp (disch := omega) only [vpT, clT, true_and, na1]
      refine ih _ ((hF.u (by decide)).u (by decide)) ((h8.u (fun z => absurd z (by decide))).u (fun _ => by decide)) rt_u_at (fun j hj => ?_) (fun j hj => ?_)
      · rw [rt_u2 (by decide)]
        by_cases e : j = i
        · subst e; rw [rt_u_at, e116]
        · rw [rt_u1 (by omega)]; exact e2 j (by omega)
      · rw [rt_u2 (by decide), rt_u1 (by omega)]; exact e3 j hj
theorem n40b (a : Nat) : (40 : Int32) + nI a = nI (40 + a) := n_la 40 a
theorem n2 (a : Nat) : (2 : Int32) * nI a = nI (2 * a) := n_lm 2 a
theorem flm_roads {a b : Nat} {r : Nat} (h23 : I 108 23 = nI b) (h3 : I 108 3 = nI a) (hab : a + b ≤ 12)
    (hQ : ∀ M, Fr M I [108, 109, 111, 112] → F8 M I [3, 31, 52] → M 108 3 = nI (a + b) → M 108 31 = 0 → M 108 52 = I 108 52 + 1 →
      (∀ j, j < b → M 109 (40 + 2 * (a + j)) = I 117 (4 * j) ∧ M 109 (41 + 2 * (a + j)) = I 117 (4 * j + 1) ∧ M 111 (a + j) = I 117 (4 * j + 2) ∧ M 112 (a + j) = I 117 (4 * j + 3)) → (∀ j, (j < 40 + 2 * a ∨ 64 ≤ j) → M 109 j = I 109 j) → (∀ j, j < a → M 111 j = I 111 j ∧ M 112 j = I 112 j) → Q (I 108 22 + I 108 23) M L r) : rt_AW G (d + 1) kX12_flats Q 146 [some (.ref 108), none, some (.int 0)] [] I L r := by
  refine rt_loop (P := fun i => ∀ M, Fr M I [108, 109, 111, 112] → F8 M I [3] → M 108 3 = nI (a + i) →
      (∀ j, j < i → M 109 (40 + 2 * (a + j)) = I 117 (4 * j) ∧ M 109 (41 + 2 * (a + j)) = I 117 (4 * j + 1) ∧ M 111 (a + j) = I 117 (4 * j + 2) ∧ M 112 (a + j) = I 117 (4 * j + 3)) → (∀ j, (j < 40 + 2 * a ∨ 64 ≤ j) → M 109 j = I 109 j) → (∀ j, j < a → M 111 j = I 111 j ∧ M 112 j = I 112 j) →
      rt_AW G (d + 1) kX12_flats Q 146 [some (.ref 108), none, some (.int (nI i))] [] M L r) b ?_ ?_ I (Fr.refl _ _) (F8.refl _ _) h3 (fun j hj => absurd hj (by omega)) (fun _ _ => rfl) (fun _ _ => ⟨rfl, rfl⟩)
  · intro M hF h8 e1 e2 e3 e4
    refine v_X12_flats_146 _ _ _ _ ⟨fun _ => ?_, fun z => absurd (by rw [h8 23 (by decide), h23]; exact Int32.le_refl _) z⟩
    rw [h8 22 (by decide), h8 23 (by decide), h8 52 (by decide)]
    refine hQ _ ((hF.u (by decide)).u (by decide)) (((h8.mono (by decide)).u (fun _ => by decide)).u (fun _ => by decide)) ?_ ?_ rt_u_at (fun j hj => ?_) (fun j hj => ?_) (fun j hj => ?_)
    · rw [rt_u1 (by decide), rt_u1 (by decide)]; exact e1
    · rw [rt_u1 (by decide), rt_u_at]
    · simp only [rt_u_ne (c := 108) (x := 109) (by decide), rt_u_ne (c := 108) (x := 111) (by decide), rt_u_ne (c := 108) (x := 112) (by decide)]
      exact e2 j hj
    · simp only [rt_u_ne (c := 108) (x := 109) (by decide)]
      exact e3 j hj
    · simp only [rt_u_ne (c := 108) (x := 111) (by decide), rt_u_ne (c := 108) (x := 112) (by decide)]
      exact e4 j hj
  · intro i hi ih M hF h8 e1 e2 e3 e4
    refine v_X12_flats_146 _ _ _ _ ⟨fun z => ?_, fun _ => ?_⟩
    · have := (n_le (a := b) (b := i) ((h8 23 (by decide)).trans h23) rfl (by omega) (by omega)).mp z
      omega
    · have e117 : M 117 = I 117 := hF 117 (by decide)
      rw [e1]
      simp (disch := omega) only [vpT, clT, true_and, na1, na2, na3, n4, n2, n40b]
      refine ih _ (((((hF.u (by decide)).u (by decide)).u (by decide)).u (by decide)).u (by decide)) (((((h8.u (fun z => absurd z (by decide))).u (fun z => absurd z (by decide))).u (fun z => absurd z (by decide))).u (fun z => absurd z (by decide))).u (fun _ => by decide)) rt_u_at (fun j hj => ?_) (fun j hj => ?_) (fun j hj => ?_)
      · rw [show 41 + 2 * (a + j) = 40 + 2 * (a + j) + 1 from by omega]
        by_cases e : j = i
        · subst e
          refine ⟨?_, ?_, ?_, ?_⟩
          · rw [rt_u2 (by decide), rt_u2 (by decide), rt_u2 (by decide), rt_u1 (by omega), rt_u_at, e117]
          · rw [rt_u2 (by decide), rt_u2 (by decide), rt_u2 (by decide), rt_u_at, e117]
          · rw [rt_u2 (by decide), rt_u2 (by decide), rt_u_at, e117]
          · rw [rt_u2 (by decide), rt_u_at, e117]
        · obtain ⟨w1, w2, w3, w4⟩ := e2 j (by omega)
          refine ⟨?_, ?_, ?_, ?_⟩
          · rw [rt_u2 (by decide), rt_u2 (by decide), rt_u2 (by decide), rt_u1 (by omega), rt_u1 (by omega)]; exact w1
          · rw [rt_u2 (by decide), rt_u2 (by decide), rt_u2 (by decide), rt_u1 (by omega), rt_u1 (by omega), show 40 + 2 * (a + j) + 1 = 41 + 2 * (a + j) from by omega]; exact w2
          · rw [rt_u2 (by decide), rt_u2 (by decide), rt_u1 (by omega), rt_u2 (by decide), rt_u2 (by decide)]; exact w3
          · rw [rt_u2 (by decide), rt_u1 (by omega), rt_u2 (by decide), rt_u2 (by decide), rt_u2 (by decide)]; exact w4
      · rw [rt_u2 (by decide), rt_u2 (by decide), rt_u2 (by decide), rt_u1 (by omega), rt_u1 (by omega)]; exact e3 j hj
      · refine ⟨?_, ?_⟩
        · rw [rt_u2 (by decide), rt_u2 (by decide), rt_u1 (by omega), rt_u2 (by decide), rt_u2 (by decide)]; exact (e4 j hj).1
        · rw [rt_u2 (by decide), rt_u1 (by omega), rt_u2 (by decide), rt_u2 (by decide), rt_u2 (by decide)]; exact (e4 j hj).2
end
section
variable {G : rt_G} {d : Nat} {Q : rt_Q} {I : rt_I} {L : rt_L} {r : Nat}
variable {B : Nat} {s : SV} {m : MO} {us : List MO} {kp : Nat → Option MO} {mk : MKT} {row : List Int32} {tx : TXT}
theorem MK.forget {s' : SV} {M : rt_I} (h : MK s kp B I) (hB : B < 2 ^ 28) (h52 : M 108 52 = I 108 52 + 1) (h133 : M 133 = I 133) (h134 : M 134 = I 134) : MK s' (fun _ => none) (B + 1) M := by
  obtain ⟨cm, h1, h2, h3⟩ := h
  refine ⟨cm + 1, by omega, by rw [h52, h2, nI_1], fun i hi => ⟨?_, fun _ => ?_, fun u hu => by cases hu⟩⟩
  · rw [h133, h134]
    rcases (h3 i hi).1 with e | ⟨e, k, e2, e3⟩
    · exact Or.inl e
    · exact Or.inr ⟨e, k, by omega, e3⟩
  · rw [h133, h134]
    rcases (h3 i hi).1 with e | ⟨e, k, e2, e3⟩
    · exact Or.inl e
    · refine Or.inr (fun z => ?_)
      rw [e3] at z
      have := (nI_eq (by omega) (by omega)).mp z
      omega
theorem MI.txq {M : rt_I} (h : MI B s m us kp mk row tx I) (hf : Fr M I [108, 116, 117, 118, 119]) (h8 : F8 M I [11, 14, 16, 17, 18, 19, 22, 23]) (h11 : M 108 11 = 0) : MI (B + 1) s m us kp mk row (0, tx.2) M := by
  obtain ⟨a1, a2, a3, a4, a5, a6, a7⟩ := h
  obtain ⟨cm, c1, c2⟩ := a4.fr (h8 52 (by decide)) (hf 132 (by decide)) (hf 133 (by decide)) (hf 134 (by decide))
  exact ⟨a1.fr (fun j hj => h8 j (fun z => by
    simp only [List.mem_cons, List.not_mem_nil, or_false] at hj z
    omega)) ((h8 28 (by decide)).trans a1.2.2.2.2.2.2.2.2.2.2) (hf 110 (by decide)) (hf 111 (by decide)) (hf 112 (by decide)) (hf 113 (by decide)) (hf 120 (by decide)), by rw [hf 109 (by decide)]; exact a2, a3.fr (h8 31 (by decide)) (hf 122 (by decide)), ⟨cm, by omega, c2⟩, a5.fr (h8 48 (by decide)) (hf 129 (by decide)), a6.fr (h8 13 (by decide)) (hf 115 (by decide)), h11, fun j hj => absurd hj (by omega), fun i => by rw [hf 114 (by decide)]; exact a7.2.2 i⟩
theorem Fr.mp {J : rt_I} {cs : List Nat} {p : Nat} {w : Option Nat} (h : Fr J I cs) (h8 : 108 ∈ cs) : Fr (mp J p w) I cs := (h.u h8).u h8
theorem F8.mp {J : rt_I} {cs : List Nat} {p : Nat} {w : Option Nat} (h : F8 J I cs) (h1 : 18 ∈ cs) (h2 : 19 ∈ cs) : F8 (mp J p w) I cs := (h.u (fun _ => h1)).u (fun _ => h2)
theorem fM_flats (h : MI B s m us kp mk row tx I) (hs : sok s) (hB : B < 2 ^ 28) (hT : tok tx) (hQ : ∀ M r', MI (B + 1) (fFlats s m us kp tx).2.1 (fFlats s m us kp tx).2.2.1 (fFlats s m us kp tx).2.2.2.1 (fFlats s m us kp tx).2.2.2.2 mk row (0, tx.2) M → Lo M I → M 108 14 = 0 → Q (fFlats s m us kp tx).1 M L r') : rt_Call G (d + 7) kX12_flats [.ref 108] I L r Q := by
  obtain ⟨hn, hch, hby⟩ := h.2.2.2.2.2.2
  have h80 := hT.1
  have hs8 := hs.1
  have hs12 := hs.2.1
  have I1 := h.1.1
  have I3 := h.1.2.1
  refine v_X12_flats _ _ _ (v_X12_begin_t _ _ _ _ _ ?_)
  rw [hn]
  obtain ⟨l, hl⟩ : ∃ l, l = min tx.1 76 := ⟨_, rfl⟩
  obtain ⟨J, hJ⟩ : ∃ J, J = rt_u (rt_u (rt_u (rt_u (rt_u (rt_u I 108 14 0) 108 16 (nI tx.1)) 108 17 76) 108 11 0) 108 22 0) 108 23 0 := ⟨_, rfl⟩
  have eS : rt_u (rt_u (rt_u (rt_u (rt_u (rt_u (rt_u (rt_u I 108 14 0) 108 16 (nI tx.1)) 108 17 76) 108 18 0) 108 19 (-1)) 108 11 0) 108 22 0) 108 23 0 = mp J 0 none := by
    rw [hJ, ← mp_u _ _ 108 23 _ _ (Or.inr ⟨by decide, by decide⟩), ← mp_u _ _ 108 22 _ _ (Or.inr ⟨by decide, by decide⟩), ← mp_u _ _ 108 11 _ _ (Or.inr ⟨by decide, by decide⟩)]
    rfl
  have hFJ : Fr J I [108, 116, 117] := by rw [hJ]; exact ((((((Fr.refl I _).u (by decide)).u (by decide)).u (by decide)).u (by decide)).u (by decide)).u (by decide)
  have h8J : F8 J I [11, 14, 16, 17, 18, 19, 22, 23] := by rw [hJ]; exact ((((((F8.refl I _).u (fun _ => by decide)).u (fun _ => by decide)).u (fun _ => by decide)).u (fun _ => by decide)).u (fun _ => by decide)).u (fun _ => by decide)
  have hMF : MF I J tx.1 := ⟨hFJ, h8J, by rw [hJ]; rfl, by rw [hJ]; rfl, by rw [hJ]; rfl⟩
  have hMD : MD s (dft0 s m) I J tx.1 := by
    refine ⟨hMF, ?_, ?_, fun j hj => absurd hj (by show ¬ j < s.np - s.np; omega), fun j hj => absurd hj (by show ¬ j < s.nr - s.nr; omega)⟩
    · show _ = nI (s.np - s.np)
      rw [hJ, Nat.sub_self]; rfl
    · show _ = nI (s.nr - s.nr)
      rw [hJ, Nat.sub_self]; rfl
  have e114 : J 114 = I 114 := hFJ 114 (by decide)
  have hRB : RB (txc tx 76) l J := by
    refine ⟨⟨rfl, Or.inl ⟨rfl, by omega⟩, tx.1, 76, by rw [hJ]; rfl, by rw [hJ]; rfl, hl, by omega, by omega⟩, fun i => by rw [e114]; exact hby i, ?_, c8_tx hT 76⟩
    unfold mch txc
    rw [e114, ← hl]
    exact ch_agr (n := tx.1) hch (by omega)
  have hrej : ∀ J' q p', MF I J' tx.1 → fFlats s m us kp tx = (-1 - nI q, s, m, us, kp) → Q (-1 - nI q) (mp J' p' (some q)) L 114 := by
    intro J' q p' hF' e
    rw [e] at hQ
    have a1 := hF'.1.mp (p := p') (w := some q) (by decide)
    exact hQ _ 114 (h.txq (a1.mono (by decide)) (hF'.2.1.mp (by decide) (by decide)) hF'.2.2.1) (a1.lo (by decide)) hF'.2.2.2.1
  refine ⟨fun z => ?_, fun z => ?_⟩
  · have hn0 : ¬ tx.1 = 0 := fun e => z (by show nI tx.1 = 0; rw [e]; rfl)
    rw [eS]
    refine flm_loop (s := s) (m := m) (by omega) (by omega) (by omega) I1 I3 ⟨tx.2, by unfold txc; rw [hl]⟩ 81 0 1 (dft0 s m) J hRB hMD (dok_0 hs) (by omega) (by omega) (fun J' q k' D' he hM' hk' hR' hq => ?_) (fun J' q p' he hF' => hrej J' q p' hF' (fFlats_f hn0 he))
    refine flm_exit hM'.1 (by omega) (by omega) wokn (fun _ hnq => ?_) (fun q' e => ?_)
    rotate_left
    · have hq' : q < tx.1 ∧ q' = q := by
        unfold endw at e
        split at e
        · cases e; exact ⟨by assumption, rfl⟩
        · cases e
      rw [hq'.2]
      exact hrej J' q q hM'.1 (fFlats_g hn0 he (by omega))
    rw [fFlats_t hn0 he (by omega)] at hQ
    dsimp only at hQ
    obtain ⟨hF', J22, J23, hP, hW⟩ := hM'
    obtain ⟨k1, k2, k3, k4, k5, k6, k7, k8, k9⟩ := hk'
    obtain ⟨hcnt, -⟩ := lnsF_k (f := tx.2) (c8_tx hT 76) 81 0 1 (dft0 s m) q k' D' (dok_0 hs) he
    have hcnt2 : D'.np + D'.nr = s.np + s.nr + k' := by
      have : D'.np + D'.nr + 1 = s.np + s.nr + k' + 1 := hcnt
      omega
    have a1 := hF'.1.mp (p := q) (w := none) (by decide)
    have a2 := hF'.2.1.mp (p := q) (w := none) (by decide) (by decide)
    refine flm_places (a := s.np) (b := D'.np - s.np) J22 ((a2 1 (by decide)).trans I1) (by omega) (fun M1 b1 b2 b3 b4 b5 => ?_)
    refine flm_roads (a := s.nr) (b := D'.nr - s.nr) ((b2 23 (by decide)).trans J23) ((b2 3 (by decide)).trans ((a2 3 (by decide)).trans I3)) (by omega) (fun M2 d1 d2 d3 d4 d5 d6 d7 d8 => ?_)
    rw [show M1 108 22 + M1 108 23 = nI k' by
      rw [b2 22 (by decide), b2 23 (by decide), show (mp J' q none) 108 22 = nI (D'.np - s.np) from J22, show (mp J' q none) 108 23 = nI (D'.nr - s.nr) from J23, nI_add]
      exact congrArg nI (by omega)]
    have hf : Fr M2 I [108, 109, 110, 111, 112, 116, 117] := ((d1.mono (by decide)).trans (b1.mono (by decide))).trans (a1.mono (by decide))
    have h8 : F8 M2 I [1, 3, 11, 14, 16, 17, 18, 19, 22, 23, 31, 52] := ((d2.mono (by decide)).trans (b2.mono (by decide))).trans (a2.mono (by decide))
    obtain ⟨⟨z1, z2, z3, z4, z5, z6, z7, z8, z9, z10, z11⟩, ⟨o1, o2, o3, o4⟩, y3, y4, y5, y6, y7⟩ := h
    have s11 : M2 108 11 = 0 := (d2 11 (by decide)).trans ((b2 11 (by decide)).trans hF'.2.2.1)
    have s14 : M2 108 14 = 0 := (d2 14 (by decide)).trans ((b2 14 (by decide)).trans hF'.2.2.2.1)
    have e110 : M2 110 = M1 110 := d1 110 (by decide)
    have x110 : ∀ j, (mp J' q none) 110 j = I 110 j := fun j => by rw [a1 110 (by decide)]
    have x109 : ∀ j, M1 109 j = I 109 j := fun j => by rw [b1 109 (by decide), a1 109 (by decide)]
    have x111 : ∀ j, M1 111 j = I 111 j := fun j => by rw [b1 111 (by decide), a1 111 (by decide)]
    have x112 : ∀ j, M1 112 j = I 112 j := fun j => by rw [b1 112 (by decide), a1 112 (by decide)]
    have x117 : ∀ j, M1 117 j = J' 117 j := fun j => by rw [b1 117 (by decide)]; rfl
    refine hQ M2 114 ⟨⟨?_, ?_, ?_, ?_, ?_, fun j hj => ?_, fun j hj => ?_, fun j hj => ?_, z9.fr (h8 27 (by decide)) (hf 120 (by decide)), (h8 9 (by decide)).trans z10, (h8 28 (by decide)).trans z11⟩, ⟨?_, fun j hj => ?_, fun w hw => ?_, fun w hw => ?_⟩, ⟨by show 0 ≤ 12; omega, d4, fun j u hu => by simp at hu⟩,
      MK.forget y4 hB (by rw [d5, b2 52 (by decide), a2 52 (by decide)]) (hf 133 (by decide)) (hf 134 (by decide)), y5.fr (h8 48 (by decide)) (hf 129 (by decide)), y6.fr (h8 13 (by decide)) (hf 115 (by decide)), s11, fun j hj => absurd hj (by omega), fun i => by rw [hf 114 (by decide)]; exact y7.2.2 i⟩ (hf.lo (by decide)) s14
    · rw [d2 1 (by decide), b3]
      exact congrArg nI (by show _ = D'.np; omega)
    · rw [d3]
      exact congrArg nI (by show _ = D'.nr; omega)
    · exact (h8 6 (by decide)).trans z3
    · exact (h8 7 (by decide)).trans z4
    · rw [hf 113 (by decide)]; exact z5
    · have hj2 : j < D'.np := hj
      show M2 110 j = D'.ph j
      rw [e110]
      rcases Nat.lt_or_ge j s.np with e | e
      · rw [b5 j e, x110, z6 j e, k5 j e]
      · have := b4 (j - s.np) (by omega)
        rw [show s.np + (j - s.np) = j from by omega] at this
        rw [this]
        have h2 := hP (j - s.np) (by omega)
        rw [show s.np + (j - s.np) = j from by omega] at h2
        exact h2
    · have hj2 : j < D'.nr := hj
      show M2 111 j = D'.st j
      rcases Nat.lt_or_ge j s.nr with e | e
      · rw [(d8 j e).1, x111, z7 j e, k6 j e]
      · have := (d6 (j - s.nr) (by omega)).2.2.1
        have h2 := (hW (j - s.nr) (by omega)).2.2.1
        rw [show s.nr + (j - s.nr) = j from by omega] at this h2
        rw [this, x117, h2]
    · have hj2 : j < D'.nr := hj
      show M2 112 j = D'.rh j
      rcases Nat.lt_or_ge j s.nr with e | e
      · rw [(d8 j e).2, x112, z8 j e, k7 j e]
      · have := (d6 (j - s.nr) (by omega)).2.2.2
        have h2 := (hW (j - s.nr) (by omega)).2.2.2
        rw [show s.nr + (j - s.nr) = j from by omega] at this h2
        rw [this, x117, h2]
    · rw [d7 64 (Or.inr (by omega)), x109, o1, k8 64 (Or.inr (by omega))]
    · have hj2 : j < 8 * s.nc := hj
      have := hs.2.2.1
      rw [d7 j (Or.inl (by omega)), x109, o2 j hj2, k8 j (Or.inl (by omega))]
    · have hw2 : w < D'.nr := hw
      rcases Nat.lt_or_ge w s.nr with e | e
      · rw [d7 _ (Or.inl (by omega)), x109, o3 w e, k8 _ (Or.inl (by omega))]
      · have := (d6 (w - s.nr) (by omega)).1
        have h2 := (hW (w - s.nr) (by omega)).1
        rw [show s.nr + (w - s.nr) = w from by omega] at this h2
        rw [this, x117, h2]
    · have hw2 : w < D'.nr := hw
      rcases Nat.lt_or_ge w s.nr with e | e
      · rw [d7 _ (Or.inl (by omega)), x109, o4 w e, k8 _ (Or.inl (by omega))]
      · have := (d6 (w - s.nr) (by omega)).2.1
        have h2 := (hW (w - s.nr) (by omega)).2.1
        rw [show s.nr + (w - s.nr) = w from by omega] at this h2
        rw [this, x117, h2]
  · have hn0 : tx.1 = 0 := (nI_eq (b := 0) (by omega) (by omega)).mp z
    rw [fFlats_0 hn0] at hQ
    refine hQ _ 114 (h.txq ?_ ?_ rt_u_at) ?_ rfl
    · exact ((((((Fr.refl I _).u (by decide)).u (by decide)).u (by decide)).u (by decide)).u (by decide)).u (by decide)
    · exact ((((((F8.refl I _).u (fun _ => by decide)).u (fun _ => by decide)).u (fun _ => by decide)).u (fun _ => by decide)).u (fun _ => by decide)).u (fun _ => by decide)
    · exact Fr.lo (cs := [108]) (((((((Fr.refl I _).u (by decide)).u (by decide)).u (by decide)).u (by decide)).u (by decide)).u (by decide)) (by decide)
end
