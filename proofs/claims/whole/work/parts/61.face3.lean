/-! THE FACE: sign, end, patience, sheet, mark, wash -/
theorem sh_eq (v : Int32) {n : Nat} (hn : n ≤ 24) : (rt_ushr v (nI n)) &&& 255 = (v >>> (nI n &&& 31)).toInt8.toInt32 &&& 255 := by
  rw [bp_b]
  apply b_ext
  intro i hi
  rw [b_and, b_and, b_255]
  by_cases h8 : i < 8
  · rw [show bt (rt_ushr v (nI n)) i = bt v (n + i) from b_ushr n (by omega) v i, b_sshr n (by omega) v hi, if_pos (by omega)]
  · rw [decide_eq_false h8, Bool.and_false, Bool.and_false]
theorem byok8 (x : Int32) : byok (x.toInt8.toInt32) := by
  unfold byok
  rw [Int8.toInt8_toInt32]
/-- the text with one more sign -/
def sg1 (v : Int32) (tx : TXT) (k : Nat) : TXT := (tx.1 + 1, upd tx.2 tx.1 ((rt_ushr v (nI k)) &&& 255))
def sg4 (v : Int32) (tx : TXT) : TXT := sg1 v (sg1 v (sg1 v (sg1 v tx 24) 16) 8) 0
def fSign (v : Int32) (tx : TXT) : Int32 × TXT := if tx.1 + 4 ≤ 80 then (nI (tx.1 + 4), sg4 v tx) else (-1, tx)
section
variable {G : rt_G} {d : Nat} {Q : rt_Q} {I : rt_I} {L : rt_L} {r B : Nat} {s : SV} {m : MO} {us : List MO} {kp : Nat → Option MO} {mk : MKT} {row : List Int32} {tx : TXT}
theorem XTx.s1 {v : Int32} {k : Nat} (h : XTx tx I) (hn : tx.1 < 80) : XTx (sg1 v tx k) (rt_u (rt_u I 2 tx.1 ((rt_ushr v (nI k)) &&& 255)) 1 1 (nI (tx.1 + 1))) := by
  refine ⟨rt_u_at, fun j hj => ?_⟩
  rw [rt_u_ne (by decide), rt_u_eq]
  show upd (I 2) tx.1 _ j = upd tx.2 tx.1 _ j
  unfold upd
  split
  · rfl
  · have : j < tx.1 + 1 := hj
    exact h.2 j (by omega)
theorem sX7_addFour {v : Int32} (h : XTx tx I) (hn : tx.1 ≤ 80) (h0 : ¬ tx.1 + 4 ≤ 80 → Q 0 I L r) (h1 : tx.1 + 4 ≤ 80 → ∀ M, Fr M I [1, 2] → XTx (sg4 v tx) M → Q 1 M L r) : rt_Call G d kX7_addFour [.ref 1, .int v] I L r Q := by
  have e4 : I 1 1 + 4 = nI (tx.1 + 4) := by rw [h.1]; exact n_al _ 4
  refine v_X7_addFour _ _ _ _ ⟨fun z => ?_, fun z => h0 (fun q => z (by rw [e4]; exact (n_le (a := tx.1 + 4) (b := 80) rfl rfl (by omega) (by omega)).mpr q))⟩
  have h80 : tx.1 + 4 ≤ 80 := by rw [e4] at z; exact (n_le (a := tx.1 + 4) (b := 80) rfl rfl (by omega) (by omega)).mp z
  have one : ∀ (tx : TXT) (I : rt_I) (k : Nat) (x : Int32), XTx tx I → tx.1 < 80 → k < 100 → x = nI k → rt_AW G d kX7_addFour Q 16 [some (.ref 1), some (.int v), some (.int (x + (-8)))] [] (rt_u (rt_u I 2 tx.1 ((rt_ushr v (nI k)) &&& 255)) 1 1 (nI (tx.1 + 1))) L r → rt_AW G d kX7_addFour Q 16 [some (.ref 1), some (.int v), some (.int x)] [] I L r := by
    intro tx I k x h hn hk hx hA
    refine v_X7_addFour_16 _ _ _ _ _ ⟨fun y => absurd y (by rw [hx]; exact n_neg (by omega)), fun _ => ⟨vp_nI h.1 hn (by omega), ?_⟩⟩
    rw [cl h.1 (by omega), h.1, nI_1]
    rw [← hx] at hA
    exact hA
  have s1 := h.s1 (v := v) (k := 24) (by omega)
  have s2 := s1.s1 (v := v) (k := 16) (by show tx.1 + 1 < 80; omega)
  have s3 := s2.s1 (v := v) (k := 8) (by show tx.1 + 1 + 1 < 80; omega)
  have s4 := s3.s1 (v := v) (k := 0) (by show tx.1 + 1 + 1 + 1 < 80; omega)
  refine one _ _ 24 _ h (by omega) (by omega) rfl (one _ _ 16 _ s1 (by show tx.1 + 1 < 80; omega) (by omega) (by decide) (one _ _ 8 _ s2 (by show tx.1 + 1 + 1 < 80; omega) (by omega) (by decide) (one _ _ 0 _ s3 (by show tx.1 + 1 + 1 + 1 < 80; omega) (by omega) (by decide) ?_)))
  refine v_X7_addFour_16 _ _ _ _ _ ⟨fun _ => h1 h80 _ ?_ s4, fun y => absurd (by decide) y⟩
  exact ((((((((Fr.refl _ _).u (by decide)).u (by decide)).u (by decide)).u (by decide)).u (by decide)).u (by decide)).u (by decide)).u (by decide)
theorem XI.tt {tx' : TXT} {M : rt_I} (h : XI s m us kp mk row tx I) (hf : Fr M I [1, 2]) (hT : XTx tx' M) : XI s m us kp mk row tx' M := by
  obtain ⟨h1, h2, h3, h4, h5, h6, h7⟩ := h
  have hg : ∀ c, 3 ≤ c → M c = I c := fun c hc => hf c (fun z => by simp only [List.mem_cons, List.not_mem_nil, or_false] at z; omega)
  exact ⟨h1.fr ⟨by rw [hg 12 (by omega)], by rw [hg 12 (by omega)]⟩ (by rw [hg 16 (by omega)]) (by rw [hg 3 (by omega)]) (hg 4 (by omega)) (hg 13 (by omega)) (hg 14 (by omega)) (hg 15 (by omega)) (by rw [hg 6 (by omega)]) (hg 7 (by omega)) (by rw [hg 20 (by omega)]), h2.fr (by rw [hg 16 (by omega)]) (hg 17 (by omega)) (hg 18 (by omega)) (hg 19 (by omega)), h3.fr (hg 21 (by omega)) (fun c a b => hg c (by omega)), h4.fr (hg 24 (by omega)) (fun c a b => hg c (by omega)), h5.fr (by rw [hg 38 (by omega)]) (hg 39 (by omega)) (hg 40 (by omega)), h6.fr (hg 42 (by omega)) (hg 43 (by omega)), hT⟩
theorem fX_sign {v : Int32} (h : XI s m us kp mk row tx I) (hn : tx.1 ≤ 80)
    (hQ : ∀ M, XI s m us kp mk row (fSign v tx).2 M → (∀ c, 108 ≤ c → M c = I c) → Q (fSign v tx).1 M L r) : rt_Call G (d + 1) kX11_sign [.ref 0, .int v] I L r Q := by
  unfold fSign at hQ
  refine v_X11_sign _ _ _ _ (sX7_addFour h.2.2.2.2.2.2 hn (fun z => ⟨fun _ => ?_, fun y => absurd rfl y⟩) (fun z M hF hT => ⟨fun y => absurd y (by decide), fun _ => ?_⟩))
  · rw [if_neg z] at hQ
    exact hQ I h (fun _ _ => rfl)
  · rw [if_pos z] at hQ
    rw [hT.1]
    exact hQ M (h.tt hF hT) (hF.hi (by decide))
theorem MTx.s1 {v x : Int32} {k : Nat} (hk : k ≤ 24) (h : MTx tx I) (hn : tx.1 < 80) (hx : x = (v >>> (nI k &&& 31)).toInt8.toInt32) : MTx (sg1 v tx k) (rt_u (rt_u I 108 11 (nI (tx.1 + 1))) 114 tx.1 (vp_nar .byte x)) := by
  have hb : vp_nar .byte x = (v >>> (nI k &&& 31)).toInt8.toInt32 := by rw [vnb (by rw [hx]; exact byok8 _), hx]
  rw [hb]
  refine ⟨?_, fun j hj => ?_, fun i => ?_⟩
  · rw [rt_u2 (by decide), rt_u_at]; rfl
  · rw [rt_u_eq, rt_u_ne (by decide)]
    show upd (I 114) tx.1 _ j &&& 255 = upd tx.2 tx.1 _ j
    unfold upd
    split
    · exact (sh_eq v hk).symm
    · have : j < tx.1 + 1 := hj
      exact h.2.1 j (by omega)
  · rw [rt_u_eq, rt_u_ne (by decide)]
    unfold upd
    split
    · exact byok8 _
    · exact h.2.2 i
theorem fM_sign {v : Int32} (h : MI B s m us kp mk row tx I) (hn : tx.1 ≤ 80)
    (hQ : ∀ M r', MI B s m us kp mk row (fSign v tx).2 M → Lo M I → M 108 14 = 0 → Q (fSign v tx).1 M L r') : rt_Call G d kX12_sign [.ref 108, .int v] I L r Q := by
  unfold fSign at hQ
  have h0 := h.t0
  have hT := h.2.2.2.2.2.2
  have hT0 := h0.2.2.2.2.2.2
  have e4 : I 108 11 + 4 = nI (tx.1 + 4) := by rw [hT.1]; exact n_al _ 4
  refine v_X12_sign _ _ _ _ ⟨fun z => ?_, fun z => ?_⟩
  · have h80 : tx.1 + 4 ≤ 80 := by rw [e4] at z; exact (n_le (a := tx.1 + 4) (b := 80) rfl rfl (by omega) (by omega)).mp z
    rw [if_pos h80] at hQ
    have one : ∀ (tx : TXT) (I : rt_I) (k j : Nat) (x : Int32), MTx tx I → tx.1 < 80 → k < 100 → x = nI k → 8 * k = j → j ≤ 24 → (∀ M, Fr M I [108, 114] → F8 M I [11] → MTx (sg1 v tx j) M → rt_AW G d kX12_sign Q 20 [some (.ref 108), some (.int v), some (.int (x + (-1)))] [] M L r) → rt_AW G d kX12_sign Q 20 [some (.ref 108), some (.int v), some (.int x)] [] I L r := by
      intro tx I k j x h hn hk hx hj hj2 hA
      refine v_X12_sign_20 _ _ _ _ _ ⟨fun y => absurd y (by rw [hx]; exact n_neg (by omega)), fun _ => ⟨vp_nI h.1 hn (by omega), ?_⟩⟩
      rw [cl h.1 (by omega), h.1, nI_1]
      refine hA _ (((Fr.refl _ _).u (by decide)).u (by decide)) (((F8.refl _ _).u (fun _ => by decide)).u (fun q => absurd q (by decide))) (h.s1 hj2 hn ?_)
      rw [hx, show (8 : Int32) * nI k = nI j by rw [← hj]; exact n_lm 8 k]
    refine one _ _ 3 24 _ hT0 (by omega) (by omega) rfl rfl (by omega) (fun M1 f1 g1 t1 => one _ _ 2 16 _ t1 (by show tx.1 + 1 < 80; omega) (by omega) (by decide) rfl (by omega) (fun M2 f2 g2 t2 => one _ _ 1 8 _ t2 (by show tx.1 + 1 + 1 < 80; omega) (by omega) (by decide) rfl (by omega) (fun M3 f3 g3 t3 => one _ _ 0 0 _ t3 (by show tx.1 + 1 + 1 + 1 < 80; omega) (by omega) (by decide) rfl (by omega) (fun M4 f4 g4 t4 => ?_))))
    refine v_X12_sign_20 _ _ _ _ _ ⟨fun _ => ?_, fun y => absurd (by decide) y⟩
    have hF : Fr M4 (rt_u I 108 14 0) [108, 114] := f4.trans (f3.trans (f2.trans f1))
    have h8 : F8 M4 (rt_u I 108 14 0) [11] := g4.trans (g3.trans (g2.trans g1))
    rw [t4.1]
    refine hQ M4 r ?_ ((Lo.of hF (by decide)).trans (Lo.of u14F (by decide))) (by rw [h8 14 (by decide)]; exact rt_u_at)
    obtain ⟨q1, q2, q3, q4, q5, q6, q7⟩ := h0
    exact ⟨q1.fr (fun j hj => h8 j (fun z => by
      simp only [List.mem_cons, List.not_mem_nil, or_false] at hj z
      omega)) ((h8 28 (by decide)).trans q1.2.2.2.2.2.2.2.2.2.2) (hF 110 (by decide)) (hF 111 (by decide)) (hF 112 (by decide)) (hF 113 (by decide)) (hF 120 (by decide)), by rw [hF 109 (by decide)]; exact q2, q3.fr (h8 31 (by decide)) (hF 122 (by decide)), q4.fr (h8 52 (by decide)) (hF 132 (by decide)) (hF 133 (by decide)) (hF 134 (by decide)), q5.fr (h8 48 (by decide)) (hF 129 (by decide)), q6.fr (h8 13 (by decide)) (hF 115 (by decide)), t4⟩
  · have h80 : ¬ tx.1 + 4 ≤ 80 := fun q => z (by rw [e4]; exact (n_le (a := tx.1 + 4) (b := 80) rfl rfl (by omega) (by omega)).mpr q)
    rw [if_neg h80] at hQ
    exact hQ _ _ h0 (Lo.of u14F (by decide)) rt_u_at
/-! end -/
def fEnd (x : Int32) (tx : TXT) : Int32 × TXT := if inb x (tx.1 + 1) = true then (1, (cc x, tx.2)) else (0, tx)
theorem fX_end {x : Int32} (h : XI s m us kp mk row tx I) (hn : tx.1 ≤ 80)
    (hQ : ∀ M, XI s m us kp mk row (fEnd x tx).2 M → (∀ c, 108 ≤ c → M c = I c) → Q (fEnd x tx).1 M L r) : rt_Call G (d + 1) kX11_end [.ref 0, .int x] I L r Q := by
  unfold fEnd at hQ
  have hT := h.2.2.2.2.2.2
  have hno : ¬ (¬ x < 0 ∧ x ≤ nI tx.1) → Q 0 I L r := by
    intro z
    rw [if_neg (fun q => z ((inb100 (by omega)).mpr q))] at hQ
    exact hQ I h (fun _ _ => rfl)
  refine v_X11_end _ _ _ _ (v_X7_cutTo _ _ _ _ ⟨fun z => ⟨Or.inl rfl, hno (fun q => q.1 z)⟩, fun z => ⟨fun z2 => ⟨Or.inr rfl, ?_⟩, fun z2 => ⟨Or.inl rfl, hno (fun q => z2 (by rw [hT.1]; exact q.2))⟩⟩⟩)
  rw [hT.1] at z2
  have hy := (inb100 (by omega)).mp ⟨z, z2⟩
  rw [if_pos hy] at hQ
  obtain ⟨k, hk, rfl⟩ := (inr_iff (by omega)).mp (inb_iff.mp hy)
  rw [cc_nI (by omega)] at hQ
  have hF : Fr (rt_u I 1 1 (nI k)) I [1, 2] := (Fr.refl _ _).u (by decide)
  refine hQ _ (h.tt hF ⟨rt_u_at, fun j hj => ?_⟩) (hF.hi (by decide))
  have hj2 : j < k := hj
  rw [rt_u_ne (by decide)]
  exact hT.2 j (by omega)
theorem fM_end {x : Int32} (h : MI B s m us kp mk row tx I) (hn : tx.1 ≤ 80)
    (hQ : ∀ M r', MI B s m us kp mk row (fEnd x tx).2 M → Lo M I → M 108 14 = 0 → Q (fEnd x tx).1 M L r') : rt_Call G (d + 1) kX12_end [.ref 108, .int x] I L r Q := by
  unfold fEnd at hQ
  have h0 := h.t0
  have hT := h.2.2.2.2.2.2
  have hT0 := h0.2.2.2.2.2.2
  refine v_X12_end _ _ _ _ ?_
  rw [hT.1]
  refine sX12_in (fun z => ⟨fun _ => ?_, fun y => absurd y (by decide)⟩) (fun z => ⟨fun y => absurd rfl y, fun _ => ?_⟩)
  · have hy := (inb100 (k := tx.1) (by omega)).mp ⟨z.1, Int32.not_lt.mp z.2⟩
    rw [if_pos hy] at hQ
    obtain ⟨k, hk, rfl⟩ := (inr_iff (by omega)).mp (inb_iff.mp hy)
    rw [cc_nI (by omega)] at hQ
    generalize hJ : rt_u I 108 14 0 = J at h0 hT0
    have h14 : J 108 14 = 0 := by rw [← hJ]; exact rt_u_at
    have hLJ : Lo J I := by rw [← hJ]; exact Lo.of u14F (by decide)
    have hF : Fr (rt_u J 108 11 (nI k)) J [108] := (Fr.refl _ _).u (by decide)
    have h8 : F8 (rt_u J 108 11 (nI k)) J [11] := (F8.refl _ _).u (fun _ => by decide)
    obtain ⟨q1, q2, q3, q4, q5, q6, q7⟩ := h0
    refine hQ _ r ⟨q1.fr (fun j hj => h8 j (fun z => by
      simp only [List.mem_cons, List.not_mem_nil, or_false] at hj z
      omega)) ((h8 28 (by decide)).trans q1.2.2.2.2.2.2.2.2.2.2) (hF 110 (by decide)) (hF 111 (by decide)) (hF 112 (by decide)) (hF 113 (by decide)) (hF 120 (by decide)), by rw [hF 109 (by decide)]; exact q2, q3.fr (h8 31 (by decide)) (hF 122 (by decide)), q4.fr (h8 52 (by decide)) (hF 132 (by decide)) (hF 133 (by decide)) (hF 134 (by decide)), q5.fr (h8 48 (by decide)) (hF 129 (by decide)), q6.fr (h8 13 (by decide)) (hF 115 (by decide)), ?_⟩ ((Lo.of hF (by decide)).trans hLJ) ((h8 14 (by decide)).trans h14)
    refine ⟨rt_u_at, fun j hj => ?_, fun i => by rw [rt_u_ne (by decide)]; exact hT0.2.2 i⟩
    have hj2 : j < k := hj
    rw [rt_u_ne (by decide)]
    exact hT0.2.1 j (by omega)
  · rw [if_neg (fun q => z (by
      have := (inb100 (k := tx.1) (by omega)).mpr q
      exact ⟨this.1, Int32.not_lt.mpr this.2⟩))] at hQ
    exact hQ _ _ h0 (Lo.of u14F (by decide)) rt_u_at
/-! patience -/
def sPat (s : SV) (p : Int32) : SV := mkS s.np s.nr s.nc s.nd s.td s.ph s.st s.rh s.RV p
def fPat (s : SV) (x : Int32) : Int32 × SV := if ¬ x < 1 ∧ x ≤ 20 then (s.pat, sPat s x) else (-1, s)
theorem fX_pat {x : Int32} (h : XI s m us kp mk row tx I)
    (hQ : ∀ M, XI (fPat s x).2 m us kp mk row tx M → (∀ c, 108 ≤ c → M c = I c) → Q (fPat s x).1 M L r) : rt_Call G d kX11_patience [.ref 0, .int x] I L r Q := by
  unfold fPat at hQ
  refine v_X11_patience _ _ _ _ ⟨fun z => ?_, fun z => ⟨fun z2 => ?_, fun z2 => ?_⟩⟩
  · rw [if_neg (fun q => q.1 z)] at hQ
    exact hQ I h (fun _ _ => rfl)
  · rw [if_pos ⟨z, z2⟩] at hQ
    have hF : Fr (rt_u I 20 4 x) I [20] := (Fr.refl _ _).u (by decide)
    obtain ⟨h1, h2, h3, h4, h5, h6, h7⟩ := h
    obtain ⟨a1, a2, a3, a4, a5, a6, a7, a8, a9, a10⟩ := h1
    rw [a10]
    have hg : ∀ c, c ≠ 20 → rt_u I 20 4 x c = I c := fun c hc => rt_u_ne hc
    refine hQ _ ⟨⟨a1, a2, a3, a4, a5, a6, a7, a8, a9.fr rfl rfl, rt_u_at⟩, ?_, ?_, ?_, h5.fr rfl rfl rfl, h6.fr rfl rfl, h7.fr rfl rfl⟩ (hF.hi (by decide))
    · exact h2.fr rfl rfl rfl rfl
    · exact h3.fr rfl (fun c a b => hg c (by omega))
    · exact h4.fr rfl (fun c a b => hg c (by omega))
  · rw [if_neg (fun q => z2 q.2)] at hQ
    exact hQ I h (fun _ _ => rfl)
theorem fM_pat {x : Int32} (h : MI B s m us kp mk row tx I)
    (hQ : ∀ M r', MI B (fPat s x).2 m us kp mk row tx M → Lo M I → M 108 14 = 0 → Q (fPat s x).1 M L r') : rt_Call G (d + 1) kX12_patience [.ref 108, .int x] I L r Q := by
  unfold fPat at hQ
  have h0 := h.t0
  refine v_X12_patience _ _ _ _ (sX12_in (fun z => ⟨fun _ => ?_, fun y => absurd y (by decide)⟩) (fun z => ⟨fun y => absurd rfl y, fun _ => ?_⟩))
  · rw [if_pos ⟨z.1, Int32.not_lt.mp z.2⟩] at hQ
    generalize hJ : rt_u I 108 14 0 = J at h0
    have h14 : J 108 14 = 0 := by rw [← hJ]; exact rt_u_at
    have hLJ : Lo J I := by rw [← hJ]; exact Lo.of u14F (by decide)
    have hF : Fr (rt_u J 108 9 x) J [108] := (Fr.refl _ _).u (by decide)
    have h8 : F8 (rt_u J 108 9 x) J [9] := (F8.refl _ _).u (fun _ => by decide)
    obtain ⟨q1, q2, q3, q4, q5, q6, q7⟩ := h0
    obtain ⟨a1, a2, a3, a4, a5, a6, a7, a8, a9, a10, a11⟩ := q1
    rw [a10]
    refine hQ _ r ⟨⟨(h8 1 (by decide)).trans a1, (h8 3 (by decide)).trans a2, (h8 6 (by decide)).trans a3, (h8 7 (by decide)).trans a4, by rw [hF 113 (by decide)]; exact a5, by rw [hF 110 (by decide)]; exact a6, by rw [hF 111 (by decide)]; exact a7, by rw [hF 112 (by decide)]; exact a8, a9.fr (h8 27 (by decide)) (hF 120 (by decide)), rt_u_at, (h8 28 (by decide)).trans a11⟩, ?_, ?_, ?_, q5.fr (h8 48 (by decide)) (hF 129 (by decide)), q6.fr (h8 13 (by decide)) (hF 115 (by decide)), q7.fr (h8 11 (by decide)) (hF 114 (by decide))⟩ ((Lo.of hF (by decide)).trans hLJ) ((h8 14 (by decide)).trans h14)
    · rw [hF 109 (by decide)]; exact q2
    · exact q3.fr (h8 31 (by decide)) (hF 122 (by decide))
    · exact q4.fr (h8 52 (by decide)) (hF 132 (by decide)) (hF 133 (by decide)) (hF 134 (by decide))
  · rw [if_neg (fun q => z ⟨q.1, Int32.not_lt.mpr q.2⟩)] at hQ
    exact hQ _ _ h0 (Lo.of u14F (by decide)) rt_u_at
/-! marks -/
def fMark (x y : Int32) (mk : MKT) : Int32 × MKT := if (inb x 1000 && inb y 181) = true ∧ mk.1 < 10 then (nI (mk.1 + 1), (mk.1 + 1, upd mk.2.1 mk.1 x, upd mk.2.2 mk.1 y)) else (-1, mk)
theorem inbD {x : Int32} {k : Nat} (hk : k < 2000) : (¬ x < 0 ∧ ¬ nI k < x) ↔ inb x (k + 1) = true := by
  rw [inb_iff]
  unfold inr
  constructor
  · rintro ⟨a, b⟩
    obtain ⟨j, hj, rfl⟩ := nI_of a
    have hb2 := mt (nI_ltI (by omega) hj).mpr b
    exact ⟨a, nI_lt (by omega) (by omega)⟩
  · rintro ⟨a, b⟩
    obtain ⟨j, hj, rfl⟩ := nI_of a
    have hb2 := (nI_ltI hj (by omega)).mp b
    exact ⟨a, nI_nlt (by omega) (by omega)⟩
theorem sX3_isTime {x : Int32} (h1 : inb x 1000 = true → Q 1 I L r) (h0 : ¬ inb x 1000 = true → Q 0 I L r) : rt_Call G d kX3_isTime [.int x] I L r Q :=
  v_X3_isTime _ _ _ _ ⟨fun z => h0 (fun q => ((inbD (k := 999) (by omega)).mpr q).1 z), fun z => ⟨fun z2 => h0 (fun q => ((inbD (k := 999) (by omega)).mpr q).2 z2), fun z2 => h1 ((inbD (k := 999) (by omega)).mp ⟨z, z2⟩)⟩⟩
theorem sX3_isError {x : Int32} (h1 : inb x 21 = true → Q 1 I L r) (h0 : ¬ inb x 21 = true → Q 0 I L r) : rt_Call G d kX3_isError [.int x] I L r Q :=
  v_X3_isError _ _ _ _ ⟨fun z => h0 (fun q => ((inbD (k := 20) (by omega)).mpr q).1 z), fun z => ⟨fun z2 => h0 (fun q => ((inbD (k := 20) (by omega)).mpr q).2 z2), fun z2 => h1 ((inbD (k := 20) (by omega)).mp ⟨z, z2⟩)⟩⟩
theorem XI.kk {mk' : MKT} {M : rt_I} (h : XI s m us kp mk row tx I) (hf : Fr M I [38, 39, 40]) (hT : XMk mk' M) : XI s m us kp mk' row tx M := by
  obtain ⟨h1, h2, h3, h4, h5, h6, h7⟩ := h
  have hg : ∀ c, c < 38 ∨ 40 < c → M c = I c := fun c hc => hf c (fun z => by simp only [List.mem_cons, List.not_mem_nil, or_false] at z; omega)
  exact ⟨h1.fr ⟨by rw [hg 12 (by omega)], by rw [hg 12 (by omega)]⟩ (by rw [hg 16 (by omega)]) (by rw [hg 3 (by omega)]) (hg 4 (by omega)) (hg 13 (by omega)) (hg 14 (by omega)) (hg 15 (by omega)) (by rw [hg 6 (by omega)]) (hg 7 (by omega)) (by rw [hg 20 (by omega)]), h2.fr (by rw [hg 16 (by omega)]) (hg 17 (by omega)) (hg 18 (by omega)) (hg 19 (by omega)), h3.fr (hg 21 (by omega)) (fun c a b => hg c (by omega)), h4.fr (hg 24 (by omega)) (fun c a b => hg c (by omega)), hT, h6.fr (hg 42 (by omega)) (hg 43 (by omega)), h7.fr (by rw [hg 1 (by omega)]) (hg 2 (by omega))⟩
theorem MI.kk {mk' : MKT} {M : rt_I} (h : MI B s m us kp mk row tx I) (hF : Fr M I [108, 129]) (h8 : F8 M I [14, 48]) (hT : MMk mk' M) : MI B s m us kp mk' row tx M := by
  obtain ⟨q1, q2, q3, q4, q5, q6, q7⟩ := h
  exact ⟨q1.fr (fun j hj => h8 j (fun z => by
      simp only [List.mem_cons, List.not_mem_nil, or_false] at hj z
      omega)) ((h8 28 (by decide)).trans q1.2.2.2.2.2.2.2.2.2.2) (hF 110 (by decide)) (hF 111 (by decide)) (hF 112 (by decide)) (hF 113 (by decide)) (hF 120 (by decide)), by rw [hF 109 (by decide)]; exact q2, q3.fr (h8 31 (by decide)) (hF 122 (by decide)), q4.fr (h8 52 (by decide)) (hF 132 (by decide)) (hF 133 (by decide)) (hF 134 (by decide)), hT, q6.fr (h8 13 (by decide)) (hF 115 (by decide)), q7.fr (h8 11 (by decide)) (hF 114 (by decide))⟩
theorem fX_mark {x y : Int32} (h : XI s m us kp mk row tx I) (h10 : mk.1 ≤ 10)
    (hQ : ∀ M, XI s m us kp (fMark x y mk).2 row tx M → (∀ c, 108 ≤ c → M c = I c) → Q (fMark x y mk).1 M L r) : rt_Call G (d + 2) kX11_mark [.ref 0, .int x, .int y] I L r Q := by
  unfold fMark at hQ
  obtain ⟨hm1, hm2, hm3⟩ := h.2.2.2.2.1
  have hno : ¬ ((inb x 1000 && inb y 181) = true ∧ mk.1 < 10) → Q (-1) I L r := by
    intro z
    rw [if_neg z] at hQ
    exact hQ I h (fun _ _ => rfl)
  refine v_X11_mark _ _ _ _ _ (v_X3_put _ _ _ _ _ (sX3_isTime (fun z => ⟨fun q => absurd q (by decide), fun _ => ⟨fun z2 => ⟨fun _ => hno ?_, fun q => absurd rfl q⟩, fun z2 => ⟨fun z3 => ⟨fun _ => hno ?_, fun q => absurd rfl q⟩, fun z3 => ⟨fun z4 => ⟨vp_nI hm1 ?_ (by omega), vp_nI hm1 ?_ (by omega), fun q => absurd q (by decide), fun _ => ?_⟩, fun z4 => ⟨fun _ => hno ?_, fun q => absurd rfl q⟩⟩⟩⟩⟩) (fun z => ⟨fun _ => ⟨fun _ => hno ?_, fun q => absurd rfl q⟩, fun q => absurd rfl q⟩)))
  · rw [Bool.and_eq_true]; exact fun q => ((inbD (k := 180) (by omega)).mpr q.1.2).1 z2
  · rw [Bool.and_eq_true]; exact fun q => ((inbD (k := 180) (by omega)).mpr q.1.2).2 z3
  · exact (n_lt (a := mk.1) (b := 10) hm1 rfl (by omega) (by omega)).mp z4
  · exact (n_lt (a := mk.1) (b := 10) hm1 rfl (by omega) (by omega)).mp z4
  · have h9 := (n_lt (a := mk.1) (b := 10) hm1 rfl (by omega) (by omega)).mp z4
    rw [if_pos ⟨by rw [Bool.and_eq_true]; exact ⟨z, (inbD (k := 180) (by omega)).mp ⟨z2, z3⟩⟩, h9⟩] at hQ
    rw [cl hm1 (by omega), hm1, nI_1]
    have hF : Fr (rt_u (rt_u (rt_u I 39 mk.1 x) 40 mk.1 y) 38 2 (nI (mk.1 + 1))) I [38, 39, 40] := (((Fr.refl _ _).u (by decide)).u (by decide)).u (by decide)
    refine hQ _ (h.kk hF ⟨rt_u_at, fun j hj => ?_, fun j hj => ?_⟩) (hF.hi (by decide))
    · rw [rt_u_ne (by decide), rt_u_ne (by decide), rt_u_eq]
      show upd (I 39) mk.1 x j = upd mk.2.1 mk.1 x j
      have hj2 : j < mk.1 + 1 := hj
      unfold upd
      split
      · rfl
      · exact hm2 j (by omega)
    · rw [rt_u_ne (by decide), rt_u_eq, rt_u_ne (by decide)]
      show upd (I 40) mk.1 y j = upd mk.2.2 mk.1 y j
      have hj2 : j < mk.1 + 1 := hj
      unfold upd
      split
      · rfl
      · exact hm3 j (by omega)
  · exact fun q => z4 ((n_lt (a := mk.1) (b := 10) hm1 rfl (by omega) (by omega)).mpr q.2)
  · rw [Bool.and_eq_true]; exact fun q => z q.1.1
theorem fM_mark {x y : Int32} (h : MI B s m us kp mk row tx I) (h10 : mk.1 ≤ 10)
    (hQ : ∀ M r', MI B s m us kp (fMark x y mk).2 row tx M → Lo M I → M 108 14 = 0 → Q (fMark x y mk).1 M L r') : rt_Call G (d + 1) kX12_mark [.ref 108, .int x, .int y] I L r Q := by
  unfold fMark at hQ
  have h0 := h.t0
  obtain ⟨hm1, hm2⟩ := h0.2.2.2.2.1
  have hno : ¬ ((inb x 1000 && inb y 181) = true ∧ mk.1 < 10) → Q (-1) (rt_u I 108 14 0) L r := by
    intro z
    rw [if_neg z] at hQ
    exact hQ _ _ h0 (Lo.of u14F (by decide)) rt_u_at
  have h14 : rt_u I 108 14 0 108 14 = 0 := rt_u_at
  have hLJ : Lo (rt_u I 108 14 0) I := Lo.of u14F (by decide)
  generalize hJ : rt_u I 108 14 0 = J at *
  refine v_X12_mark _ _ _ _ _ ?_
  rw [hJ]
  refine sX12_in (fun z => ⟨fun q => absurd q (by decide), fun _ => sX12_in (fun z2 => ⟨fun q => absurd q (by decide), fun _ => ⟨fun z3 => ?_, fun z3 => hno ?_⟩⟩) (fun z2 => ⟨fun _ => hno ?_, fun q => absurd rfl q⟩)⟩) (fun z => ⟨fun _ => hno ?_, fun q => absurd rfl q⟩)
  · have h9 : mk.1 < 10 := by
      have := mt (n_eq (a := mk.1) (b := 10) hm1 rfl (by omega) (by omega)).mpr z3
      omega
    rw [if_pos ⟨by rw [Bool.and_eq_true]; exact ⟨(inbD (k := 999) (by omega)).mp z, (inbD (k := 180) (by omega)).mp z2⟩, h9⟩] at hQ
    rw [hm1, show (2 : Int32) * nI mk.1 = nI (2 * mk.1) from n_lm 2 _]
    simp (disch := omega) only [na1, vpT, clT, true_and]
    have hF : Fr (rt_u (rt_u (rt_u J 129 (2 * mk.1) x) 129 (2 * mk.1 + 1) y) 108 48 (nI (mk.1 + 1))) J [108, 129] := (((Fr.refl _ _).u (by decide)).u (by decide)).u (by decide)
    have h8 : F8 (rt_u (rt_u (rt_u J 129 (2 * mk.1) x) 129 (2 * mk.1 + 1) y) 108 48 (nI (mk.1 + 1))) J [14, 48] := (((F8.refl _ _).u (fun q => absurd q (by decide))).u (fun q => absurd q (by decide))).u (fun _ => by decide)
    refine hQ _ r (h0.kk hF h8 ⟨rt_u_at, fun k hk => ?_⟩) ((Lo.of hF (by decide)).trans hLJ) ?_
    · have hk2 : k < mk.1 + 1 := hk
      rw [rt_u_ne (by decide), rt_u_eq, rt_u_eq]
      show upd (upd (J 129) (2 * mk.1) x) (2 * mk.1 + 1) y (2 * k) = upd mk.2.1 mk.1 x k ∧ upd (upd (J 129) (2 * mk.1) x) (2 * mk.1 + 1) y (2 * k + 1) = upd mk.2.2 mk.1 y k
      by_cases e : k = mk.1
      · subst e
        rw [upd1 (by omega), upd0, upd0, upd0, upd0]
        exact ⟨rfl, rfl⟩
      · simp (disch := omega) only [upd1]
        exact hm2 k (by omega)
    · rw [rt_u1 (by decide), rt_u2 (by decide), rt_u2 (by decide)]; exact h14
  · exact fun q => by
      have := (n_eq (a := mk.1) (b := 10) hm1 rfl (by omega) (by omega)).mp z3
      omega
  · rw [Bool.and_eq_true]; exact fun q => z2 ((inbD (k := 180) (by omega)).mpr q.1.2)
  · rw [Bool.and_eq_true]; exact fun q => z ((inbD (k := 999) (by omega)).mpr q.1.1)
theorem fX_wash (h : XI s m us kp mk row tx I)
    (hQ : ∀ M, XI s m us kp (0, mk.2) row tx M → (∀ c, 108 ≤ c → M c = I c) → Q (nI mk.1) M L r) : rt_Call G d kX11_wash [.ref 0] I L r Q := by
  have hF : Fr (rt_u I 38 2 0) I [38, 39, 40] := (Fr.refl _ _).u (by decide)
  refine v_X11_wash _ _ _ ?_
  rw [h.2.2.2.2.1.1]
  exact hQ _ (h.kk hF ⟨rt_u_at, fun j hj => absurd hj (Nat.not_lt_zero _), fun j hj => absurd hj (Nat.not_lt_zero _)⟩) (hF.hi (by decide))
theorem fM_wash (h : MI B s m us kp mk row tx I)
    (hQ : ∀ M r', MI B s m us kp (0, mk.2) row tx M → Lo M I → M 108 14 = 0 → Q (nI mk.1) M L r') : rt_Call G d kX12_wash [.ref 108] I L r Q := by
  have hF : Fr (rt_u (rt_u I 108 14 0) 108 48 0) I [108, 129] := ((Fr.refl _ _).u (by decide)).u (by decide)
  have h8 : F8 (rt_u (rt_u I 108 14 0) 108 48 0) I [14, 48] := ((F8.refl _ _).u (fun _ => by decide)).u (fun _ => by decide)
  refine v_X12_wash _ _ _ ?_
  rw [h.2.2.2.2.1.1]
  exact hQ _ r (h.kk hF h8 ⟨rt_u_at, fun j hj => absurd hj (Nat.not_lt_zero _)⟩) (Lo.of hF (by decide)) (by rw [rt_u1 (by decide), rt_u_at])
end
