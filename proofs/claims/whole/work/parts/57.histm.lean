/-! WHAT CAN BE UNDONE, what is kept: the model's -/
theorem MMo.c65 {s : SV} {m f f' : Nat → Int32} (hk : sok s) (h : MMo s m f) (he : ∀ k, k < 65 → f' k = f k) : MMo s m f' := by
  have h5 := hk.2.2.1
  have h12 := hk.2.1
  obtain ⟨a1, a2, a3, a4⟩ := h
  exact ⟨(he 64 (by omega)).trans a1, fun j hj => (he j (by omega)).trans (a2 j hj), fun w hw => (he _ (by omega)).trans (a3 w hw), fun w hw => (he _ (by omega)).trans (a4 w hw)⟩
theorem n65 (b : Nat) : (65 : Int32) * nI b = nI (65 * b) := n_lm 65 b
theorem na65 (b : Nat) : nI b + (65 : Int32) = nI (b + 65) := n_al b 65
def MH (s : SV) (us : List (Nat → Int32)) (I : rt_I) : Prop := us.length ≤ 12 ∧ I 108 31 = nI us.length ∧ ∀ j u, us[j]? = some u → MMo s u (fun k => I 122 (65 * (us.length - 1 - j) + k))
theorem MH.fr {s : SV} {us : List (Nat → Int32)} {M I : rt_I} (h : MH s us I) (h31 : M 108 31 = I 108 31) (h122 : M 122 = I 122) : MH s us M := by
  unfold MH
  rw [h31, h122]
  exact h
section
variable {G : rt_G} {d : Nat} {Q : rt_Q} {I : rt_I} {L : rt_L} {r B : Nat} {s : SV} {m : Nat → Int32}
theorem wX12_lay_nu {b : Nat} {x : Int32} (hx : x = nI b) (hb : b + 65 ≤ 780) (hQ : ∀ M, Fr M I [122] → (∀ k, k < 65 → M 122 (b + k) = I 109 k) → (∀ i, (i < b ∨ b + 65 ≤ i) → M 122 i = I 122 i) → Q 0 M L r) : rt_Call G d kX12_lay [.ref 109, .ref 122, .int x] I L r Q := by
  subst hx
  refine v_X12_lay_nu _ _ _ _ (rt_loop (P := fun i => ∀ M, Fr M I [122] → (∀ k, k < i → M 122 (b + k) = I 109 k) → (∀ j, (j < b ∨ b + i ≤ j) → M 122 j = I 122 j) → rt_AW G d kX12_lay Q 2 [some (.ref 109), some (.ref 122), some (.int (nI b)), some (.int (nI i))] [] M L r) 65 ?_ ?_ I (Fr.refl _ _) (fun k hk => absurd hk (by omega)) (fun _ _ => rfl))
  · intro M hF h1 h2
    exact v_X12_lay_nu_2 _ _ _ _ _ ⟨fun _ => hQ M hF h1 h2, fun z => absurd (by decide) z⟩
  · intro i hi ih M hF h1 h2
    refine v_X12_lay_nu_2 _ _ _ _ _ ⟨fun z => absurd ((n_le (a := 65) (b := i) rfl rfl (by omega) (by omega)).mp z) (by omega), fun _ => ?_⟩
    simp (disch := omega) only [nI_add, na1, vpT, clT, true_and]
    have hs : M 109 = I 109 := hF 109 (by decide)
    refine ih _ (hF.u (by decide)) (fun k hk => ?_) (fun j hj => ?_)
    · by_cases e : k = i
      · subst e; rw [rt_u_at, hs]
      · rw [rt_u1 (by omega)]; exact h1 k (by omega)
    · rw [rt_u1 (by omega)]; exact h2 j (by omega)
theorem wX12_lay_au {b : Nat} {x : Int32} (hx : x = nI b) (hb : b + 65 ≤ 780) (hQ : ∀ M, Fr M I [122] → (∀ k, k < 65 → M 122 (b + k) = I 123 k) → (∀ i, (i < b ∨ b + 65 ≤ i) → M 122 i = I 122 i) → Q 0 M L r) : rt_Call G d kX12_lay [.ref 123, .ref 122, .int x] I L r Q := by
  subst hx
  refine v_X12_lay_au _ _ _ _ (rt_loop (P := fun i => ∀ M, Fr M I [122] → (∀ k, k < i → M 122 (b + k) = I 123 k) → (∀ j, (j < b ∨ b + i ≤ j) → M 122 j = I 122 j) → rt_AW G d kX12_lay Q 2 [some (.ref 123), some (.ref 122), some (.int (nI b)), some (.int (nI i))] [] M L r) 65 ?_ ?_ I (Fr.refl _ _) (fun k hk => absurd hk (by omega)) (fun _ _ => rfl))
  · intro M hF h1 h2
    exact v_X12_lay_au_2 _ _ _ _ _ ⟨fun _ => hQ M hF h1 h2, fun z => absurd (by decide) z⟩
  · intro i hi ih M hF h1 h2
    refine v_X12_lay_au_2 _ _ _ _ _ ⟨fun z => absurd ((n_le (a := 65) (b := i) rfl rfl (by omega) (by omega)).mp z) (by omega), fun _ => ?_⟩
    simp (disch := omega) only [nI_add, na1, vpT, clT, true_and]
    have hs : M 123 = I 123 := hF 123 (by decide)
    refine ih _ (hF.u (by decide)) (fun k hk => ?_) (fun j hj => ?_)
    · by_cases e : k = i
      · subst e; rw [rt_u_at, hs]
      · rw [rt_u1 (by omega)]; exact h1 k (by omega)
    · rw [rt_u1 (by omega)]; exact h2 j (by omega)
theorem wX12_lay_na {b : Nat} {x : Int32} (hx : x = nI b) (hb : b + 65 ≤ 65) (hQ : ∀ M, Fr M I [123] → (∀ k, k < 65 → M 123 (b + k) = I 109 k) → (∀ i, (i < b ∨ b + 65 ≤ i) → M 123 i = I 123 i) → Q 0 M L r) : rt_Call G d kX12_lay [.ref 109, .ref 123, .int x] I L r Q := by
  subst hx
  refine v_X12_lay_na _ _ _ _ (rt_loop (P := fun i => ∀ M, Fr M I [123] → (∀ k, k < i → M 123 (b + k) = I 109 k) → (∀ j, (j < b ∨ b + i ≤ j) → M 123 j = I 123 j) → rt_AW G d kX12_lay Q 2 [some (.ref 109), some (.ref 123), some (.int (nI b)), some (.int (nI i))] [] M L r) 65 ?_ ?_ I (Fr.refl _ _) (fun k hk => absurd hk (by omega)) (fun _ _ => rfl))
  · intro M hF h1 h2
    exact v_X12_lay_na_2 _ _ _ _ _ ⟨fun _ => hQ M hF h1 h2, fun z => absurd (by decide) z⟩
  · intro i hi ih M hF h1 h2
    refine v_X12_lay_na_2 _ _ _ _ _ ⟨fun z => absurd ((n_le (a := 65) (b := i) rfl rfl (by omega) (by omega)).mp z) (by omega), fun _ => ?_⟩
    simp (disch := omega) only [nI_add, na1, vpT, clT, true_and]
    have hs : M 109 = I 109 := hF 109 (by decide)
    refine ih _ (hF.u (by decide)) (fun k hk => ?_) (fun j hj => ?_)
    · by_cases e : k = i
      · subst e; rw [rt_u_at, hs]
      · rw [rt_u1 (by omega)]; exact h1 k (by omega)
    · rw [rt_u1 (by omega)]; exact h2 j (by omega)
theorem wX12_lay_nt {b : Nat} {x : Int32} (hx : x = nI b) (hb : b + 65 ≤ 65) (hQ : ∀ M, Fr M I [131] → (∀ k, k < 65 → M 131 (b + k) = I 109 k) → (∀ i, (i < b ∨ b + 65 ≤ i) → M 131 i = I 131 i) → Q 0 M L r) : rt_Call G d kX12_lay [.ref 109, .ref 131, .int x] I L r Q := by
  subst hx
  refine v_X12_lay_nt _ _ _ _ (rt_loop (P := fun i => ∀ M, Fr M I [131] → (∀ k, k < i → M 131 (b + k) = I 109 k) → (∀ j, (j < b ∨ b + i ≤ j) → M 131 j = I 131 j) → rt_AW G d kX12_lay Q 2 [some (.ref 109), some (.ref 131), some (.int (nI b)), some (.int (nI i))] [] M L r) 65 ?_ ?_ I (Fr.refl _ _) (fun k hk => absurd hk (by omega)) (fun _ _ => rfl))
  · intro M hF h1 h2
    exact v_X12_lay_nt_2 _ _ _ _ _ ⟨fun _ => hQ M hF h1 h2, fun z => absurd (by decide) z⟩
  · intro i hi ih M hF h1 h2
    refine v_X12_lay_nt_2 _ _ _ _ _ ⟨fun z => absurd ((n_le (a := 65) (b := i) rfl rfl (by omega) (by omega)).mp z) (by omega), fun _ => ?_⟩
    simp (disch := omega) only [nI_add, na1, vpT, clT, true_and]
    have hs : M 109 = I 109 := hF 109 (by decide)
    refine ih _ (hF.u (by decide)) (fun k hk => ?_) (fun j hj => ?_)
    · by_cases e : k = i
      · subst e; rw [rt_u_at, hs]
      · rw [rt_u1 (by omega)]; exact h1 k (by omega)
    · rw [rt_u1 (by omega)]; exact h2 j (by omega)
theorem wX12_lay_nk {b : Nat} {x : Int32} (hx : x = nI b) (hb : b + 65 ≤ 130) (hQ : ∀ M, Fr M I [132] → (∀ k, k < 65 → M 132 (b + k) = I 109 k) → (∀ i, (i < b ∨ b + 65 ≤ i) → M 132 i = I 132 i) → Q 0 M L r) : rt_Call G d kX12_lay [.ref 109, .ref 132, .int x] I L r Q := by
  subst hx
  refine v_X12_lay_nk _ _ _ _ (rt_loop (P := fun i => ∀ M, Fr M I [132] → (∀ k, k < i → M 132 (b + k) = I 109 k) → (∀ j, (j < b ∨ b + i ≤ j) → M 132 j = I 132 j) → rt_AW G d kX12_lay Q 2 [some (.ref 109), some (.ref 132), some (.int (nI b)), some (.int (nI i))] [] M L r) 65 ?_ ?_ I (Fr.refl _ _) (fun k hk => absurd hk (by omega)) (fun _ _ => rfl))
  · intro M hF h1 h2
    exact v_X12_lay_nk_2 _ _ _ _ _ ⟨fun _ => hQ M hF h1 h2, fun z => absurd (by decide) z⟩
  · intro i hi ih M hF h1 h2
    refine v_X12_lay_nk_2 _ _ _ _ _ ⟨fun z => absurd ((n_le (a := 65) (b := i) rfl rfl (by omega) (by omega)).mp z) (by omega), fun _ => ?_⟩
    simp (disch := omega) only [nI_add, na1, vpT, clT, true_and]
    have hs : M 109 = I 109 := hF 109 (by decide)
    refine ih _ (hF.u (by decide)) (fun k hk => ?_) (fun j hj => ?_)
    · by_cases e : k = i
      · subst e; rw [rt_u_at, hs]
      · rw [rt_u1 (by omega)]; exact h1 k (by omega)
    · rw [rt_u1 (by omega)]; exact h2 j (by omega)
theorem wX12_remember_now {us : List (Nat → Int32)} (hk : sok s) (hH : MH s us I) (hM : MMo s m (I 109))
    (hQ : ∀ M, Fr M I [108, 122] → F8 M I [31] → MH s ((m :: us).take 12) M → Q 0 M L r) : rt_Call G (d + 1) kX12_remember [.ref 108, .ref 109] I L r Q := by
  obtain ⟨hl, h31, hus⟩ := hH
  refine v_X12_remember_now _ _ _ ⟨fun z => ?_, fun z => ?_⟩
  · have hlt : us.length < 12 := by
      have := mt (n_eq (b := 12) h31 rfl (by omega) (by omega)).mpr z
      omega
    have e12 : (m :: us).take 12 = m :: us := List.take_of_length_le (by simp only [List.length_cons]; omega)
    rw [e12] at hQ
    rw [h31, n65]
    refine wX12_lay_nu rfl (by omega) (fun M hF h1 h2 => ?_)
    have h108 : M 108 = I 108 := hF 108 (by decide)
    rw [h108, h31, na1]
    refine hQ _ ((hF.mono (by decide)).u (by decide)) (fun j hj => ?_) ⟨by simp only [List.length_cons]; omega, rt_u_at, fun j u hu => ?_⟩
    · rw [rt_u1 (fun e => hj (by rw [e]; decide)), h108]
    · simp only [List.length_cons]
      cases j with
      | zero =>
        obtain rfl : m = u := by simpa using hu
        refine hM.c65 hk (fun k hk2 => ?_)
        rw [rt_u2 (by decide), show us.length + 1 - 1 - 0 = us.length by omega]
        exact h1 k hk2
      | succ j =>
        have hu2 : us[j]? = some u := by simpa using hu
        have hj := us_lt hu2
        refine (hus j u hu2).c65 hk (fun k hk2 => ?_)
        rw [rt_u2 (by decide), show us.length + 1 - 1 - (j + 1) = us.length - 1 - j by omega]
        exact h2 _ (Or.inl (by omega))
  · have hlt : us.length = 12 := (n_eq (b := 12) h31 rfl (by omega) (by omega)).mp z
    refine rt_loop (P := fun i => ∀ M, Fr M I [122] → (∀ k, k < i → M 122 k = I 122 (k + 65)) → (∀ k, i ≤ k → M 122 k = I 122 k) → rt_AW G (d + 1) kX12_remember Q 11 [some (.ref 108), some (.ref 109), some (.int (nI i))] [] M L r) 715 ?_ ?_ I (Fr.refl _ _) (fun k hk => absurd hk (by omega)) (fun _ _ => rfl)
    · intro M hF h1 h2
      have h108 : M 108 = I 108 := hF 108 (by decide)
      refine v_X12_remember_now_11 _ _ _ _ ⟨fun _ => ?_, fun z => absurd (by decide) z⟩
      have e11 : M 108 31 - 1 = nI 11 := by rw [h108, z]; decide
      rw [e11, n65]
      refine wX12_lay_nu rfl (by omega) (fun M2 hF2 h3 h4 => ?_)
      have e108 : M2 108 31 = nI 11 := by rw [hF2 108 (by decide), rt_u_at]
      rw [e108, na1]
      have hlen : ((m :: us).take 12).length = 12 := by rw [List.length_take, List.length_cons]; omega
      refine hQ _ ((((hF2.mono (by decide)).trans (((Fr.refl M [108, 122])).u (by decide))).trans (hF.mono (by decide))).u (by decide)) (fun j hj => ?_) ⟨by omega, by rw [rt_u_at, hlen], fun j u hu => ?_⟩
      · rw [rt_u1 (fun e => hj (by rw [e]; decide)), hF2 108 (by decide), rt_u1 (fun e => hj (by rw [e]; decide)), h108]
      · rw [hlen]
        have hj12 : j < 12 := by have := us_lt hu; omega
        rw [List.getElem?_take, if_pos hj12] at hu
        cases j with
        | zero =>
          obtain rfl : m = u := by simpa using hu
          refine hM.c65 hk (fun k hk2 => ?_)
          rw [rt_u2 (by decide), show 65 * (12 - 1 - 0) + k = 65 * 11 + k by omega, h3 k hk2, rt_u_ne (by decide), hF 109 (by decide)]
        | succ j =>
          have hu2 : us[j]? = some u := by simpa using hu
          refine (hus j u hu2).c65 hk (fun k hk2 => ?_)
          rw [rt_u2 (by decide), h4 _ (Or.inl (by omega)), rt_u_ne (by decide), h1 _ (by omega), hlt]
          congr 1; omega
    · intro i hi ih M hF h1 h2
      refine v_X12_remember_now_11 _ _ _ _ ⟨fun z => absurd ((n_le (a := 715) (b := i) rfl rfl (by omega) (by omega)).mp z) (by omega), fun _ => ?_⟩
      simp (disch := omega) only [na65, na1, vpT, clT, true_and]
      refine ih _ (hF.u (by decide)) (fun k hk => ?_) (fun k hk => ?_)
      · by_cases e : k = i
        · subst e; rw [rt_u_at]; exact h2 _ (by omega)
        · rw [rt_u1 e]; exact h1 k (by omega)
      · rw [rt_u1 (by omega)]; exact h2 k (by omega)
theorem wX12_remember_aside {us : List (Nat → Int32)} (hk : sok s) (hH : MH s us I) (hM : MMo s m (I 123))
    (hQ : ∀ M, Fr M I [108, 122] → F8 M I [31] → MH s ((m :: us).take 12) M → Q 0 M L r) : rt_Call G (d + 1) kX12_remember [.ref 108, .ref 123] I L r Q := by
  obtain ⟨hl, h31, hus⟩ := hH
  refine v_X12_remember_aside _ _ _ ⟨fun z => ?_, fun z => ?_⟩
  · have hlt : us.length < 12 := by
      have := mt (n_eq (b := 12) h31 rfl (by omega) (by omega)).mpr z
      omega
    have e12 : (m :: us).take 12 = m :: us := List.take_of_length_le (by simp only [List.length_cons]; omega)
    rw [e12] at hQ
    rw [h31, n65]
    refine wX12_lay_au rfl (by omega) (fun M hF h1 h2 => ?_)
    have h108 : M 108 = I 108 := hF 108 (by decide)
    rw [h108, h31, na1]
    refine hQ _ ((hF.mono (by decide)).u (by decide)) (fun j hj => ?_) ⟨by simp only [List.length_cons]; omega, rt_u_at, fun j u hu => ?_⟩
    · rw [rt_u1 (fun e => hj (by rw [e]; decide)), h108]
    · simp only [List.length_cons]
      cases j with
      | zero =>
        obtain rfl : m = u := by simpa using hu
        refine hM.c65 hk (fun k hk2 => ?_)
        rw [rt_u2 (by decide), show us.length + 1 - 1 - 0 = us.length by omega]
        exact h1 k hk2
      | succ j =>
        have hu2 : us[j]? = some u := by simpa using hu
        have hj := us_lt hu2
        refine (hus j u hu2).c65 hk (fun k hk2 => ?_)
        rw [rt_u2 (by decide), show us.length + 1 - 1 - (j + 1) = us.length - 1 - j by omega]
        exact h2 _ (Or.inl (by omega))
  · have hlt : us.length = 12 := (n_eq (b := 12) h31 rfl (by omega) (by omega)).mp z
    refine rt_loop (P := fun i => ∀ M, Fr M I [122] → (∀ k, k < i → M 122 k = I 122 (k + 65)) → (∀ k, i ≤ k → M 122 k = I 122 k) → rt_AW G (d + 1) kX12_remember Q 11 [some (.ref 108), some (.ref 123), some (.int (nI i))] [] M L r) 715 ?_ ?_ I (Fr.refl _ _) (fun k hk => absurd hk (by omega)) (fun _ _ => rfl)
    · intro M hF h1 h2
      have h108 : M 108 = I 108 := hF 108 (by decide)
      refine v_X12_remember_aside_11 _ _ _ _ ⟨fun _ => ?_, fun z => absurd (by decide) z⟩
      have e11 : M 108 31 - 1 = nI 11 := by rw [h108, z]; decide
      rw [e11, n65]
      refine wX12_lay_au rfl (by omega) (fun M2 hF2 h3 h4 => ?_)
      have e108 : M2 108 31 = nI 11 := by rw [hF2 108 (by decide), rt_u_at]
      rw [e108, na1]
      have hlen : ((m :: us).take 12).length = 12 := by rw [List.length_take, List.length_cons]; omega
      refine hQ _ ((((hF2.mono (by decide)).trans (((Fr.refl M [108, 122])).u (by decide))).trans (hF.mono (by decide))).u (by decide)) (fun j hj => ?_) ⟨by omega, by rw [rt_u_at, hlen], fun j u hu => ?_⟩
      · rw [rt_u1 (fun e => hj (by rw [e]; decide)), hF2 108 (by decide), rt_u1 (fun e => hj (by rw [e]; decide)), h108]
      · rw [hlen]
        have hj12 : j < 12 := by have := us_lt hu; omega
        rw [List.getElem?_take, if_pos hj12] at hu
        cases j with
        | zero =>
          obtain rfl : m = u := by simpa using hu
          refine hM.c65 hk (fun k hk2 => ?_)
          rw [rt_u2 (by decide), show 65 * (12 - 1 - 0) + k = 65 * 11 + k by omega, h3 k hk2, rt_u_ne (by decide), hF 123 (by decide)]
        | succ j =>
          have hu2 : us[j]? = some u := by simpa using hu
          refine (hus j u hu2).c65 hk (fun k hk2 => ?_)
          rw [rt_u2 (by decide), h4 _ (Or.inl (by omega)), rt_u_ne (by decide), h1 _ (by omega), hlt]
          congr 1; omega
    · intro i hi ih M hF h1 h2
      refine v_X12_remember_aside_11 _ _ _ _ ⟨fun z => absurd ((n_le (a := 715) (b := i) rfl rfl (by omega) (by omega)).mp z) (by omega), fun _ => ?_⟩
      simp (disch := omega) only [na65, na1, vpT, clT, true_and]
      refine ih _ (hF.u (by decide)) (fun k hk => ?_) (fun k hk => ?_)
      · by_cases e : k = i
        · subst e; rw [rt_u_at]; exact h2 _ (by omega)
        · rw [rt_u1 e]; exact h1 k (by omega)
      · rw [rt_u1 (by omega)]; exact h2 k (by omega)
theorem MMo.of_cells {f f' : Nat → Int32} (hk : sok s) (h : MMo s m f) (he : ∀ k, k < 65 → f' k = f k) : MMo s m f' := h.c65 hk he
theorem wX12_undo {us : List (Nat → Int32)} (hk : sok s) (hH : MH s us I) (h0 : us = [] → ∀ M, Fr M I [108] → F8 M I [14] → M 108 14 = 0 → Q (-1) M L r)
    (h1 : ∀ u us', us = u :: us' → ∀ M, Fr M I [108, 109] → F8 M I [14, 31] → M 108 14 = 0 → MMo s u (M 109) → MH s us' M → Q (nI us'.length) M L r) : rt_Call G d kX12_undo [.ref 108] I L r Q := by
  obtain ⟨hl, h31, hus⟩ := hH
  cases us with
  | nil =>
    refine v_X12_undo _ _ _ ⟨fun z => absurd (by rw [h31]; rfl) z, fun _ => h0 rfl _ ((Fr.refl _ _).u (by decide)) ((F8.refl _ _).u (fun _ => by decide)) rt_u_at⟩
  | cons u us' =>
    simp only [List.length_cons] at hl h31
    have e31 : I 108 31 - 1 = nI us'.length := by rw [h31]; exact nI_pred _
    refine v_X12_undo _ _ _ ⟨fun _ => ?_, fun z => absurd ((n_eq h31 (show (0 : Int32) = nI 0 from rfl) (by omega) (by omega)).mp z) (by omega)⟩
    rw [e31]
    generalize hJ : rt_u (rt_u I 108 14 0) 108 31 (nI us'.length) = J
    have hFJ : Fr J I [108] := by rw [← hJ]; exact ((Fr.refl _ _).u (by decide)).u (by decide)
    have h8J : F8 J I [14, 31] := by rw [← hJ]; exact ((F8.refl _ _).u (fun _ => by decide)).u (fun _ => by decide)
    have h14 : J 108 14 = 0 := by rw [← hJ, rt_u1 (by decide), rt_u_at]
    have h31J : J 108 31 = nI us'.length := by rw [← hJ, rt_u_at]
    refine rt_loop (P := fun i => ∀ M, Fr M J [109] → (∀ k, k < i → M 109 k = J 122 (65 * us'.length + k)) → rt_AW G d kX12_undo Q 26 [some (.ref 108), some (.int (nI i))] [] M L r) 65 ?_ ?_ J (Fr.refl _ _) (fun k hk => absurd hk (by omega))
    · intro M hF hM
      have h108 : M 108 = J 108 := hF 108 (by decide)
      refine v_X12_undo_26 _ _ _ _ ⟨fun _ => ?_, fun z => absurd (by decide) z⟩
      rw [h108, h31J]
      refine h1 u us' rfl M ((hF.mono (by decide)).trans (hFJ.mono (by decide))) (fun j hj => by rw [h108]; exact h8J j hj) (by rw [h108]; exact h14) ?_ ⟨by omega, by rw [h108]; exact h31J, fun j v hv => ?_⟩
      · refine (hus 0 u rfl).c65 hk (fun k hk2 => ?_)
        rw [hM k hk2, hFJ 122 (by decide)]
        simp only [List.length_cons]
        congr 1
      · have hj := us_lt hv
        refine (hus (j + 1) v (by simpa using hv)).c65 hk (fun k hk2 => ?_)
        rw [hF 122 (by decide), hFJ 122 (by decide)]
        simp only [List.length_cons]
        congr 2
        omega
    · intro i hi ih M hF hM
      have h108 : M 108 = J 108 := hF 108 (by decide)
      refine v_X12_undo_26 _ _ _ _ ⟨fun z => absurd ((n_le (a := 65) (b := i) rfl rfl (by omega) (by omega)).mp z) (by omega), fun _ => ?_⟩
      rw [h108, h31J]
      simp (disch := omega) only [n65, nI_add, na1, vpT, clT, true_and]
      refine ih _ (hF.u (by decide)) (fun k hk2 => ?_)
      by_cases e : k = i
      · subst e; rw [rt_u_at, hF 122 (by decide)]
      · rw [rt_u1 e]; exact hM k (by omega)
/-- what the model has kept; cm: how often something came -/
def MK (s : SV) (kp : Nat → Option (Nat → Int32)) (B : Nat) (I : rt_I) : Prop := ∃ cm, cm ≤ B ∧ I 108 52 = nI cm ∧ ∀ i, i < 2 → (I 133 i = 0 ∨ ¬ I 133 i = 0 ∧ ∃ k, k ≤ cm ∧ I 134 i = nI k) ∧
  (kp i = none → I 133 i = 0 ∨ ¬ I 134 i = nI cm) ∧ ∀ u, kp i = some u → ¬ I 133 i = 0 ∧ I 134 i = nI cm ∧ MMo s u (fun k => I 132 (65 * i + k))
theorem MK.fr {kp : Nat → Option (Nat → Int32)} {M : rt_I} (h : MK s kp B I) (h52 : M 108 52 = I 108 52) (h132 : M 132 = I 132) (h133 : M 133 = I 133) (h134 : M 134 = I 134) : MK s kp B M := by
  unfold MK
  rw [h52, h132, h133, h134]
  exact h
theorem MK.mono {kp : Nat → Option (Nat → Int32)} {B' : Nat} (h : MK s kp B I) (hB : B ≤ B') : MK s kp B' I := by
  obtain ⟨cm, h1, h2⟩ := h
  exact ⟨cm, by omega, h2⟩
theorem inr01 {x : Int32} : (¬ x < 0 ∧ ¬ 1 < x) ↔ inr x 2 := by
  constructor
  · rintro ⟨h1, h2⟩
    obtain ⟨j, hj, rfl⟩ := nI_of h1
    have := mt (nI_ltI (a := 1) (b := j) (by omega) (by omega)).mpr h2
    exact (inr_iff (by omega)).mpr ⟨j, by omega, rfl⟩
  · rintro h
    obtain ⟨j, hj, rfl⟩ := (inr_iff (by omega)).mp h
    exact ⟨n_neg (by omega), nI_nlt (a := 1) (by omega) (by omega)⟩
theorem wX12_keep {kp : Nat → Option (Nat → Int32)} {x : Int32} (hk : sok s) (hH : MK s kp B I) (hM : MMo s m (I 109))
    (h0 : inb x 2 = false → ∀ M, Fr M I [108] → F8 M I [14] → M 108 14 = 0 → Q 0 M L r) (h1 : ∀ i, i < 2 → x = nI i → ∀ M, Fr M I [108, 132, 133, 134] → F8 M I [14] → M 108 14 = 0 → MK s (updK kp i (some m)) B M → Q 1 M L r) : rt_Call G (d + 1) kX12_keep [.ref 108, .int x] I L r Q := by
  have hF0 : Fr (rt_u I 108 14 0) I [108] := (Fr.refl _ _).u (by decide)
  have h80 : F8 (rt_u I 108 14 0) I [14] := (F8.refl _ _).u (fun _ => by decide)
  refine v_X12_keep _ _ _ _ (sX12_in (fun q => ⟨fun _ => ?_, fun y => absurd y (by decide)⟩) (fun q => ⟨fun y => absurd rfl y, fun _ => h0 ?_ _ hF0 h80 rt_u_at⟩))
  · obtain ⟨i, hi, rfl⟩ := (inr_iff (by omega)).mp (inr01.mp q)
    obtain ⟨cm, hcm, h52, hI⟩ := hH
    simp (disch := omega) only [n65, vpT, clT, true_and]
    rw [rt_u1 (by decide), h52]
    refine wX12_lay_nk rfl (by omega) (fun M hF h3 h4 => ?_)
    have e109 : ∀ k, rt_u (rt_u (rt_u I 108 14 0) 133 i (vp_nar .boolean 1)) 134 i (nI cm) 109 k = I 109 k := fun k => by rw [rt_u2 (by decide), rt_u2 (by decide), rt_u2 (by decide)]
    have e133 : M 133 = rt_u I 133 i 1 133 := by rw [hF 133 (by decide), rt_u_ne (by decide), nar1, rt_u_eq, rt_u_ne (by decide), rt_u_eq]
    have e134 : M 134 = rt_u I 134 i (nI cm) 134 := by rw [hF 134 (by decide), rt_u_eq, rt_u_ne (by decide), rt_u_ne (by decide), rt_u_eq]
    have e108 : M 108 = rt_u I 108 14 0 108 := by rw [hF 108 (by decide), rt_u_ne (by decide), rt_u_ne (by decide)]
    refine h1 i hi rfl M ((hF.mono (by decide)).trans ((((Fr.refl _ _).u (by decide)).u (by decide)).u (by decide))) (fun j hj => by rw [e108]; exact h80 j hj) (by rw [e108]; exact rt_u_at) ⟨cm, hcm, by rw [e108, rt_u1 (by decide)]; exact h52, fun j hj => ?_⟩
    rw [e133, e134]
    unfold updK
    by_cases e : j = i
    · subst e
      rw [if_pos rfl, rt_u_at, rt_u_at]
      refine ⟨Or.inr ⟨by decide, cm, Nat.le_refl _, rfl⟩, fun z => (by cases z), fun u hu => ⟨by decide, rfl, ?_⟩⟩
      cases hu
      exact hM.c65 hk (fun k hk2 => by rw [h3 k hk2, e109])
    · rw [if_neg e, rt_u1 e, rt_u1 e]
      obtain ⟨a, b, c⟩ := hI j hj
      refine ⟨a, b, fun u hu => ?_⟩
      obtain ⟨c1, c2, c3⟩ := c u hu
      refine ⟨c1, c2, c3.c65 hk (fun k hk2 => ?_)⟩
      rw [h4 _ (by omega), rt_u2 (by decide), rt_u2 (by decide), rt_u2 (by decide)]
  · cases hh : inb x 2 with
    | false => rfl
    | true => exact absurd (inr01.mpr (inb_iff.mp hh)) q
theorem wX12_again {kp : Nat → Option (Nat → Int32)} {us : List (Nat → Int32)} {x : Int32} (hk : sok s) (hH : MK s kp B I) (hB : B < 2 ^ 30) (hU : MH s us I)
    (h0 : (∀ i, i < 2 → x = nI i → kp i = none) → ∀ M, Fr M I [108] → F8 M I [14] → M 108 14 = 0 → Q 0 M L r) (h1 : ∀ i u, i < 2 → x = nI i → kp i = some u → ∀ M, Fr M I [108, 109] → F8 M I [14, 31] → M 108 14 = 0 → MMo s u (M 109) → MH s [] M → Q 1 M L r) : rt_Call G (d + 1) kX12_again [.ref 108, .int x] I L r Q := by
  have hF0 : Fr (rt_u I 108 14 0) I [108] := (Fr.refl _ _).u (by decide)
  have h80 : F8 (rt_u I 108 14 0) I [14] := (F8.refl _ _).u (fun _ => by decide)
  refine v_X12_again _ _ _ _ (sX12_in (fun q => ⟨fun y => absurd y (by decide), fun _ => ?_⟩) (fun q => ⟨fun _ => h0 (fun i hi e => absurd (inr01.mpr ((inr_iff (by omega)).mpr ⟨i, hi, e⟩)) q) _ hF0 h80 rt_u_at, fun y => absurd rfl y⟩))
  obtain ⟨i, hi, rfl⟩ := (inr_iff (by omega)).mp (inr01.mp q)
  obtain ⟨cm, hcm, h52, hI⟩ := hH
  obtain ⟨a, b, c⟩ := hI i hi
  simp (disch := omega) only [vpT, clT, true_and]
  rw [rt_u2 (by decide), rt_u2 (by decide), rt_u1 (by decide), h52]
  have hno : (kp i = none) → Q 0 (rt_u I 108 14 0) L r := fun hkn => h0 (fun j hj e => by
    obtain rfl := (nI_eq (by omega) (by omega)).mp e
    exact hkn) _ hF0 h80 rt_u_at
  refine ⟨fun y => hno ?_, fun y => ⟨fun y2 => ?_, fun y2 => hno ?_⟩⟩
  · cases hki : kp i with
    | none => rfl
    | some u => exact absurd y (c u hki).1
  · cases hki : kp i with
    | none => 
      rcases b hki with b | b
      · exact absurd b y
      · exact absurd y2 b
    | some u =>
      obtain ⟨c1, c2, c3⟩ := c u hki
      refine rt_loop (P := fun t => ∀ M, Fr M (rt_u I 108 14 0) [109] → (∀ k, k < t → M 109 k = I 132 (65 * i + k)) → rt_AW G (d + 1) kX12_again Q 40 [some (.ref 108), some (.int (nI i)), some (.int (nI t))] [] M L r) 65 ?_ ?_ _ (Fr.refl _ _) (fun k hk => absurd hk (by omega))
      · intro M hF hM
        refine v_X12_again_40 _ _ _ _ _ ⟨fun _ => ?_, fun z => absurd (by decide) z⟩
        refine h1 i u hi rfl hki _ (((hF.mono (by decide)).trans (hF0.mono (by decide))).u (by decide)) (F8.u (fun j hj => by rw [hF 108 (by decide)]; exact h80 j (fun z => hj (by simp only [List.mem_cons, List.not_mem_nil, or_false] at z ⊢; omega))) (fun _ => by decide)) ?_ ?_ ⟨by simp, rt_u_at, fun j w hw => by simp at hw⟩
        · rw [rt_u1 (by decide), hF 108 (by decide), rt_u_at]
        · rw [rt_u_ne (by decide)]
          exact c3.c65 hk (fun k hk2 => hM k hk2)
      · intro t ht ih M hF hM
        refine v_X12_again_40 _ _ _ _ _ ⟨fun z => absurd ((n_le (a := 65) (b := t) rfl rfl (by omega) (by omega)).mp z) (by omega), fun _ => ?_⟩
        simp (disch := omega) only [n65, nI_add, na1, vpT, clT, true_and]
        refine ih _ (hF.u (by decide)) (fun k hk2 => ?_)
        by_cases e : k = t
        · subst e; rw [rt_u_at, hF 132 (by decide), rt_u_ne (by decide)]
        · rw [rt_u1 e]; exact hM k (by omega)
  · cases hki : kp i with
    | none => rfl
    | some u => exact absurd (c u hki).2.1 y2
end
