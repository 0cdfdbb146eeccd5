/-! WHAT CAN BE UNDONE, what is kept: the class's and the model's -/
def cpI (I : rt_I) (a b : Nat) : rt_I := rt_uA (rt_uA (rt_uA (rt_u (rt_u I a 0 (I b 0)) a 1 (I b 1)) (a + 1) (va_cpy (I (b + 1)) (I (a + 1)) 0 0 40)) (a + 2) (va_cpy (I (b + 2)) (I (a + 2)) 0 0 12)) (a + 3) (va_cpy (I (b + 3)) (I (a + 3)) 0 0 12)
def mobs : List Nat := [44, 48, 52, 56, 60, 64, 68, 72, 76, 80, 84, 88, 92, 96, 100, 104]
theorem mobs_ex {o : Nat} (h : o ∈ mobs) : 44 ≤ o ∧ o ≤ 104 ∧ o % 4 = 0 := by
  unfold mobs at h
  simp only [List.mem_cons, List.not_mem_nil, or_false] at h
  omega
theorem mobs_of {o : Nat} (h : 44 ≤ o ∧ o ≤ 104 ∧ o % 4 = 0) : o ∈ mobs := by
  unfold mobs
  simp only [List.mem_cons, List.not_mem_nil, or_false]
  omega
/-- a moment that is kept somewhere, with how many carts there are -/
def XMr (s : SV) (m : Nat → Int32) (I : rt_I) (o : Nat) : Prop := XMo s m I o ∧ I o 1 = nI s.nc
theorem cpI_0 (I : rt_I) (a b : Nat) : cpI I a b a 0 = I b 0 := by
  unfold cpI
  rw [rt_uA_ne (by omega), rt_uA_ne (by omega), rt_uA_ne (by omega), rt_u1 (by omega), rt_u_at]
theorem cpI_1 (I : rt_I) (a b : Nat) : cpI I a b a 1 = I b 1 := by
  unfold cpI
  rw [rt_uA_ne (by omega), rt_uA_ne (by omega), rt_uA_ne (by omega), rt_u_at]
theorem cpI_p (I : rt_I) (a b : Nat) {j : Nat} (hj : j < 40) : cpI I a b (a + 1) j = I (b + 1) j := by
  unfold cpI
  rw [rt_uA_ne (by omega), rt_uA_ne (by omega), rt_uA_eq, pk_cpy_in (by omega) (by omega)]
  congr 1; omega
theorem cpI_f (I : rt_I) (a b : Nat) {j : Nat} (hj : j < 12) : cpI I a b (a + 2) j = I (b + 2) j := by
  unfold cpI
  rw [rt_uA_ne (by omega), rt_uA_eq, pk_cpy_in (by omega) (by omega)]
  congr 1; omega
theorem cpI_o (I : rt_I) (a b : Nat) {j : Nat} (hj : j < 12) : cpI I a b (a + 3) j = I (b + 3) j := by
  unfold cpI
  rw [rt_uA_eq, pk_cpy_in (by omega) (by omega)]
  congr 1; omega
theorem cpI_out (I : rt_I) (a b : Nat) {c : Nat} (h : c < a ∨ a + 3 < c) : cpI I a b c = I c := by
  unfold cpI
  rw [rt_uA_ne (by omega), rt_uA_ne (by omega), rt_uA_ne (by omega), rt_u_ne (by omega), rt_u_ne (by omega)]
theorem cpI_mo {s : SV} {m : Nat → Int32} {I : rt_I} {a b : Nat} (hk : sok s) (h : XMr s m I b) : XMr s m (cpI I a b) a := by
  have h5 := hk.2.2.1
  have h12 := hk.2.1
  obtain ⟨⟨a1, a2, a3, a4⟩, a5⟩ := h
  refine ⟨⟨(cpI_0 I a b).trans a1, fun j hj => ?_, fun w hw => ?_, fun w hw => ?_⟩, (cpI_1 I a b).trans a5⟩
  · rw [cpI_p I a b (by omega)]; exact a2 j hj
  · rw [cpI_f I a b (by omega)]; exact a3 w hw
  · rw [cpI_o I a b (by omega)]; exact a4 w hw
theorem XMr.fr {s : SV} {m : Nat → Int32} {M I : rt_I} {o : Nat} (h : XMr s m I o) (hf : ∀ c, o ≤ c → c ≤ o + 3 → M c = I c) : XMr s m M o :=
  ⟨h.1.fr (by rw [hf o (by omega) (by omega)]) (hf _ (by omega) (by omega)) (hf _ (by omega) (by omega)) (hf _ (by omega) (by omega)), by rw [hf o (by omega) (by omega)]; exact h.2⟩
section
variable {G : rt_G} {d : Nat} {Q : rt_Q} {I : rt_I} {L : rt_L} {r B : Nat} {s : SV} {m : Nat → Int32}
theorem cp_p {o : Nat} (ho : o ∈ mobs) (hQ : Q 0 (cpI I o 16) L r) : rt_Call G (d + 1) kX4_copyFrom [.ref o, .ref 16] I L r Q := by
  unfold mobs at ho
  simp only [List.mem_cons, List.not_mem_nil, or_false] at ho
  rcases ho with rfl | rfl | rfl | rfl | rfl | rfl | rfl | rfl | rfl | rfl | rfl | rfl | rfl | rfl | rfl | rfl
  · exact v_X4_copyFrom_p44 _ _ _ hQ
  · exact v_X4_copyFrom_p48 _ _ _ hQ
  · exact v_X4_copyFrom_p52 _ _ _ hQ
  · exact v_X4_copyFrom_p56 _ _ _ hQ
  · exact v_X4_copyFrom_p60 _ _ _ hQ
  · exact v_X4_copyFrom_p64 _ _ _ hQ
  · exact v_X4_copyFrom_p68 _ _ _ hQ
  · exact v_X4_copyFrom_p72 _ _ _ hQ
  · exact v_X4_copyFrom_p76 _ _ _ hQ
  · exact v_X4_copyFrom_p80 _ _ _ hQ
  · exact v_X4_copyFrom_p84 _ _ _ hQ
  · exact v_X4_copyFrom_p88 _ _ _ hQ
  · exact v_X4_copyFrom_p92 _ _ _ hQ
  · exact v_X4_copyFrom_p96 _ _ _ hQ
  · exact v_X4_copyFrom_p100 _ _ _ hQ
  · exact v_X4_copyFrom_p104 _ _ _ hQ
theorem cp_q {o : Nat} (ho : o ∈ mobs) (hQ : Q 0 (cpI I 16 o) L r) : rt_Call G (d + 1) kX4_copyFrom [.ref 16, .ref o] I L r Q := by
  unfold mobs at ho
  simp only [List.mem_cons, List.not_mem_nil, or_false] at ho
  rcases ho with rfl | rfl | rfl | rfl | rfl | rfl | rfl | rfl | rfl | rfl | rfl | rfl | rfl | rfl | rfl | rfl
  · exact v_X4_copyFrom_q44 _ _ _ hQ
  · exact v_X4_copyFrom_q48 _ _ _ hQ
  · exact v_X4_copyFrom_q52 _ _ _ hQ
  · exact v_X4_copyFrom_q56 _ _ _ hQ
  · exact v_X4_copyFrom_q60 _ _ _ hQ
  · exact v_X4_copyFrom_q64 _ _ _ hQ
  · exact v_X4_copyFrom_q68 _ _ _ hQ
  · exact v_X4_copyFrom_q72 _ _ _ hQ
  · exact v_X4_copyFrom_q76 _ _ _ hQ
  · exact v_X4_copyFrom_q80 _ _ _ hQ
  · exact v_X4_copyFrom_q84 _ _ _ hQ
  · exact v_X4_copyFrom_q88 _ _ _ hQ
  · exact v_X4_copyFrom_q92 _ _ _ hQ
  · exact v_X4_copyFrom_q96 _ _ _ hQ
  · exact v_X4_copyFrom_q100 _ _ _ hQ
  · exact v_X4_copyFrom_q104 _ _ _ hQ
/-- the ring: f is the free place, the latest first -/
def rgo (f j : Nat) : Nat := 44 + 4 * ((f + 12 - j) % 13)
def XH (s : SV) (us : List (Nat → Int32)) (I : rt_I) : Prop := us.length ≤ 12 ∧ ∃ f, f < 13 ∧ I 21 4 = nI f ∧ I 21 5 = nI us.length ∧ ∀ j u, us[j]? = some u → XMr s u I (rgo f j)
theorem ring_pt (r : Nat) : ∀ f : Fin 13, rt_pt r 22 f.val = some (44 + 4 * f.val) := by
  intro f
  have h : ∀ f : Fin 13, (rt_ptL.getD 22 []).getD f.val none = some (44 + 4 * f.val) := by decide +kernel
  unfold rt_pt
  rw [if_neg (by omega)]
  exact h f
theorem ring_isO : ∀ f : Fin 13, rt_isO (44 + 4 * f.val) 4 0 = true := by decide +kernel
/-- a moment is laid aside, to be undone if the call is done -/
def XP (s : SV) (us : List (Nat → Int32)) (m : Nat → Int32) (I : rt_I) : Prop := us.length ≤ 12 ∧ ∃ f, f < 13 ∧ I 21 4 = nI f ∧ I 21 5 = nI us.length ∧ (∀ j u, us[j]? = some u → XMr s u I (rgo f j)) ∧ XMr s m I (44 + 4 * f)
theorem XP.H {us : List (Nat → Int32)} (h : XP s us m I) : XH s us I := by
  obtain ⟨h1, f, h2, h3, h4, h5, h6⟩ := h
  exact ⟨h1, f, h2, h3, h4, h5⟩
theorem rgo_rng {f j : Nat} (h : f < 13) (hj : j < 12) : 44 ≤ rgo f j ∧ rgo f j ≤ 92 ∧ rgo f j % 4 = 0 ∧ ¬ rgo f j = 44 + 4 * f := by
  unfold rgo
  omega
theorem us_lt {us : List (Nat → Int32)} {j : Nat} {u : Nat → Int32} (h : us[j]? = some u) : j < us.length := (List.getElem?_eq_some_iff.mp h).1
theorem XH.fr {M : rt_I} {us : List (Nat → Int32)} (h : XH s us I) (h21 : M 21 = I 21) (hr : ∀ c, 44 ≤ c → c ≤ 95 → M c = I c) : XH s us M := by
  obtain ⟨h1, f, h2, h3, h4, h5⟩ := h
  refine ⟨h1, f, h2, by rw [h21]; exact h3, by rw [h21]; exact h4, fun j u hu => (h5 j u hu).fr (fun c a b => hr c ?_ ?_)⟩
  · have := rgo_rng (f := f) (j := j) h2 (by have := us_lt hu; omega); omega
  · have := rgo_rng (f := f) (j := j) h2 (by have := us_lt hu; omega); omega
theorem XP.fr {M : rt_I} {us : List (Nat → Int32)} (h : XP s us m I) (h21 : M 21 = I 21) (hr : ∀ c, 44 ≤ c → c ≤ 95 → M c = I c) : XP s us m M := by
  obtain ⟨h1, f, h2, h3, h4, h5, h6⟩ := h
  refine ⟨h1, f, h2, by rw [h21]; exact h3, by rw [h21]; exact h4, fun j u hu => (h5 j u hu).fr (fun c a b => hr c ?_ ?_), h6.fr (fun c a b => hr c (by omega) (by omega))⟩
  · have := rgo_rng (f := f) (j := j) h2 (by have := us_lt hu; omega); omega
  · have := rgo_rng (f := f) (j := j) h2 (by have := us_lt hu; omega); omega
def ringC : List Nat := [44, 45, 46, 47, 48, 49, 50, 51, 52, 53, 54, 55, 56, 57, 58, 59, 60, 61, 62, 63, 64, 65, 66, 67, 68, 69, 70, 71, 72, 73, 74, 75, 76, 77, 78, 79, 80, 81, 82, 83, 84, 85, 86, 87, 88, 89, 90, 91, 92, 93, 94, 95]
theorem wX1_prepare {us : List (Nat → Int32)} (hk : sok s) (hH : XH s us I) (hM : XMo s m I 16) (hc : I 16 1 = nI s.nc)
    (hQ : ∀ M, (∀ c, (c < 44 ∨ 95 < c) → M c = I c) → XP s us m M → Q 0 M L r) : rt_Call G (d + 2) kX1_prepare [.ref 21, .ref 16] I L r Q := by
  obtain ⟨h1, f, h2, h3, h4, h5⟩ := hH
  have hmo : 44 + 4 * f ∈ mobs := mobs_of (by omega)
  refine v_X1_prepare _ _ _ ⟨vp_nI h3 h2 (by omega), 44 + 4 * f, ?_, ring_isO ⟨f, h2⟩, cp_p hmo (hQ _ (fun c hc => cpI_out I _ _ (by omega)) ?_)⟩
  · rw [cl h3 (by omega)]
    exact ring_pt r ⟨f, h2⟩
  · refine ⟨h1, f, h2, ?_, ?_, fun j u hu => (h5 j u hu).fr (fun c a b => cpI_out I _ _ ?_), cpI_mo hk ⟨hM, hc⟩⟩
    · rw [cpI_out I _ _ (by omega)]; exact h3
    · rw [cpI_out I _ _ (by omega)]; exact h4
    · have := rgo_rng (f := f) (j := j) h2 (by have := us_lt hu; omega)
      omega
theorem wX1_keepIfDone {us : List (Nat → Int32)} {v : Int32} (hH : XP s us m I) (h0 : v < 0 → Q v I L r)
    (h1 : ¬ v < 0 → ∀ M, (∀ c, c ≠ 21 → M c = I c) → XH s ((m :: us).take 12) M → Q v M L r) : rt_Call G (d + 1) kX1_keepIfDone [.ref 21, .int v] I L r Q := by
  obtain ⟨hl, f, h2, h3, h4, h5, h6⟩ := hH
  have emin : rt_min (I 21 5 + 1) 12 = nI ((m :: us).take 12).length := by
    rw [h4, nI_1]
    unfold rt_min
    have hlen : ((m :: us).take 12).length = min 12 (us.length + 1) := by rw [List.length_take]; rfl
    rw [hlen]
    by_cases h : 12 < us.length + 1
    · rw [if_pos (show (12 : Int32) < nI (us.length + 1) from nI_lt (a := 12) h (by omega)), Nat.min_eq_left (by omega)]; rfl
    · rw [if_neg (show ¬ (12 : Int32) < nI (us.length + 1) from nI_nlt (a := 12) (by omega) (by omega)), Nat.min_eq_right (by omega)]
  have key : ∀ f', f' < 13 → (∀ j, j < 12 → rgo f' (j + 1) = rgo f j) → rgo f' 0 = 44 + 4 * f → ∀ j u, ((m :: us).take 12)[j]? = some u → XMr s u I (rgo f' j) := by
    intro f' hf' e1 e2 j u hu
    have hj : j < 12 := by
      have := us_lt hu
      rw [List.length_take] at this
      omega
    rw [List.getElem?_take, if_pos hj] at hu
    cases j with
    | zero =>
      have : m = u := by simpa using hu
      rw [e2, ← this]
      exact h6
    | succ j =>
      rw [e1 j (by omega)]
      exact h5 j u (by simpa using hu)
  have hfin : ∀ f', f' < 13 → (∀ j, j < 12 → rgo f' (j + 1) = rgo f j) → rgo f' 0 = 44 + 4 * f → ¬ v < 0 → Q v (rt_u (rt_u I 21 4 (nI f')) 21 5 (nI ((m :: us).take 12).length)) L r := by
    intro f' hf' e1 e2 hv
    refine h1 hv _ (fun c hc => by rw [rt_u_ne hc, rt_u_ne hc]) ⟨by rw [List.length_take]; omega, f', hf', ?_, ?_, fun j u hu => (key f' hf' e1 e2 j u hu).fr (fun c a b => ?_)⟩
    · rw [rt_u1 (by decide), rt_u_at]
    · rw [rt_u_at]
    · have := rgo_rng (f := f') (j := j) hf' (by have := us_lt hu; rw [List.length_take] at this; omega)
      rw [rt_u_ne (by omega), rt_u_ne (by omega)]
  refine v_X1_keepIfDone _ _ _ _ ⟨h0, fun hv => ⟨fun z => ?_, fun z => ?_⟩⟩
  · rw [emin, h3, nI_1]
    have hf : f + 1 < 13 := by
      have := mt (n_eq (a := f) (b := 12) h3 rfl (by omega) (by omega)).mpr z
      omega
    exact hfin (f + 1) hf (fun j hj => by unfold rgo; congr 2; omega) (by unfold rgo; congr 2; omega) hv
  · rw [emin]
    have hf : f = 12 := (n_eq (a := f) (b := 12) h3 rfl (by omega) (by omega)).mp z
    exact hfin 0 (by omega) (fun j hj => by unfold rgo; congr 2; omega) (by unfold rgo; congr 2; omega) hv
theorem wX1_stepBack {us : List (Nat → Int32)} (hk : sok s) (hH : XH s us I) (h0 : us = [] → Q 0 I L r)
    (h1 : ∀ u us', us = u :: us' → ∀ M, (∀ c, c ≠ 16 → c ≠ 17 → c ≠ 18 → c ≠ 19 → c ≠ 21 → M c = I c) → XMr s u M 16 → XH s us' M → Q 1 M L r) : rt_Call G (d + 2) kX1_stepBack [.ref 21, .ref 16] I L r Q := by
  obtain ⟨hl, f, h2, h3, h4, h5⟩ := hH
  cases us with
  | nil =>
    refine v_X1_stepBack _ _ _ ⟨fun z => absurd ?_ z, fun _ => h0 rfl⟩
    rw [h4]; rfl
  | cons u us' =>
    have hlen : I 21 5 - 1 = nI us'.length := by rw [h4]; exact nI_pred _
    simp only [List.length_cons] at hl
    have hfin : ∀ f', f' < 13 → (∀ j, j < 11 → rgo f (j + 1) = rgo f' j) → rgo f 0 = 44 + 4 * f' → Q 1 (cpI (rt_u (rt_u I 21 4 (nI f')) 21 5 (nI us'.length)) 16 (44 + 4 * f')) L r := by
      intro f' hf' e1 e2
      have hu0 := h5 0 u rfl
      rw [e2] at hu0
      refine h1 u us' rfl _ (fun c a1 a2 a3 a4 a5 => by rw [cpI_out _ _ _ (by omega), rt_u_ne a5, rt_u_ne a5]) (cpI_mo hk (hu0.fr (fun c a b => by rw [rt_u_ne (by omega), rt_u_ne (by omega)]))) ⟨by omega, f', hf', ?_, ?_, fun j w hw => ?_⟩
      · rw [cpI_out _ _ _ (by omega), rt_u1 (by decide), rt_u_at]
      · rw [cpI_out _ _ _ (by omega), rt_u_at]
      · have hj := us_lt hw
        have := h5 (j + 1) w (by simpa using hw)
        rw [e1 j (by omega)] at this
        have hr := rgo_rng (f := f') (j := j) hf' (by omega)
        exact this.fr (fun c a b => by rw [cpI_out _ _ _ (by omega), rt_u_ne (by omega), rt_u_ne (by omega)])
    refine v_X1_stepBack _ _ _ ⟨fun _ => ⟨fun z => ?_, fun z => ?_⟩, fun z => absurd ((n_eq h4 (show (0 : Int32) = nI 0 from rfl) (by simp only [List.length_cons]; omega) (by omega)).mp z) (by simp)⟩
    · have hf : f ≠ 0 := fun e => z (by rw [h3, e]; rfl)
      obtain ⟨f', rfl⟩ : ∃ f', f = f' + 1 := ⟨f - 1, by omega⟩
      have e4 : I 21 4 - 1 = nI f' := by rw [h3]; exact nI_pred _
      rw [e4, hlen]
      refine ⟨vp_nI rfl (by omega) (by omega), 44 + 4 * f', ?_, cp_q (mobs_of (by omega)) (hfin f' (by omega) (fun j hj => by unfold rgo; congr 2; omega) (by unfold rgo; congr 2; omega))⟩
      rw [cl rfl (by omega)]
      exact ring_pt r ⟨f', by omega⟩
    · have hf : f = 0 := (n_eq h3 (show (0 : Int32) = nI 0 from rfl) (by omega) (by omega)).mp z
      subst hf
      rw [hlen]
      exact ⟨vp_nI (n := 12) rfl (by omega) (by omega), 92, ring_pt r ⟨12, by omega⟩, cp_q (mobs_of (by omega)) (hfin 12 (by omega) (fun j hj => by unfold rgo; congr 2; omega) (by unfold rgo; congr 2))⟩
/-- what is kept -/
def XK (s : SV) (kp : Nat → Option (Nat → Int32)) (I : rt_I) : Prop := ∀ i, i < 2 → (kp i = none → I 24 i = 0) ∧ ∀ u, kp i = some u → I 24 i = 1 ∧ XMr s u I (96 + 4 * i)
theorem XK.fr {M : rt_I} {kp : Nat → Option (Nat → Int32)} (h : XK s kp I) (h24 : M 24 = I 24) (hr : ∀ c, 96 ≤ c → c ≤ 103 → M c = I c) : XK s kp M := fun i hi => by
  obtain ⟨a, b⟩ := h i hi
  rw [h24]
  exact ⟨a, fun u hu => ⟨(b u hu).1, (b u hu).2.fr (fun c q1 q2 => hr c (by omega) (by omega))⟩⟩
def updK (kp : Nat → Option (Nat → Int32)) (i : Nat) (v : Option (Nat → Int32)) : Nat → Option (Nat → Int32) := fun j => if j = i then v else kp j
theorem kept_pt (r : Nat) : ∀ f : Fin 2, rt_pt r 23 f.val = some (96 + 4 * f.val) := by
  intro f
  have h : ∀ f : Fin 2, (rt_ptL.getD 23 []).getD f.val none = some (96 + 4 * f.val) := by decide +kernel
  unfold rt_pt
  rw [if_neg (by omega)]
  exact h f
theorem kept_isO : ∀ f : Fin 2, rt_isO (96 + 4 * f.val) 4 0 = true := by decide +kernel
theorem nar1 : vp_nar .boolean (1 : Int32) = 1 := by decide +kernel
theorem nar0 : vp_nar .boolean (0 : Int32) = 0 := by decide +kernel
theorem wX1_store {kp : Nat → Option (Nat → Int32)} {x : Int32} (hk : sok s) (hH : XK s kp I) (hM : XMo s m I 16) (hc : I 16 1 = nI s.nc)
    (h0 : inb x 2 = false → Q 0 I L r) (h1 : ∀ i, i < 2 → x = nI i → ∀ M, (∀ c, c ≠ 24 → (c < 96 ∨ 103 < c) → M c = I c) → XK s (updK kp i (some m)) M → Q 1 M L r) : rt_Call G (d + 2) kX1_store [.ref 21, .int x, .ref 16] I L r Q := by
  have hno : ¬ inr x 2 → inb x 2 = false := fun q => by
    cases hh : inb x 2 with
    | false => rfl
    | true => exact absurd (inb_iff.mp hh) q
  refine v_X1_store _ _ _ _ ⟨fun z => h0 (hno (fun q => q.1 z)), fun z => ⟨fun z2 => ?_, fun z2 => h0 (hno (fun q => z2 q.2))⟩⟩
  obtain ⟨i, hi, rfl⟩ := (inr_iff (n := 2) (by omega)).mp ⟨z, z2⟩
  have hv : vp_in (nI i) 2 := vp_nI rfl hi (by omega)
  rw [cl (n := i) rfl (by omega)]
  refine ⟨hv, 96 + 4 * i, kept_pt r ⟨i, hi⟩, kept_isO ⟨i, hi⟩, cp_p (mobs_of (by omega)) ⟨hv, ?_⟩⟩
  refine h1 i hi rfl _ (fun c a b => by rw [rt_u_ne a, cpI_out _ _ _ (by omega)]) (fun j hj => ?_)
  unfold updK
  by_cases e : j = i
  · subst e
    rw [if_pos rfl]
    refine ⟨fun q => (by cases q), fun u hu => ?_⟩
    cases hu
    exact ⟨by rw [rt_u_at]; exact nar1, (cpI_mo hk ⟨hM, hc⟩).fr (fun c a b => rt_u_ne (by omega))⟩
  · rw [if_neg e]
    obtain ⟨a, b⟩ := hH j hj
    rw [rt_u1 e, cpI_out _ _ _ (by omega)]
    exact ⟨a, fun u hu => ⟨(b u hu).1, (b u hu).2.fr (fun c q1 q2 => by rw [rt_u_ne (by omega), cpI_out _ _ _ (by omega)])⟩⟩
theorem wX1_restore {kp : Nat → Option (Nat → Int32)} {us : List (Nat → Int32)} {x : Int32} (hk : sok s) (hH : XK s kp I) (hU : XH s us I)
    (h0 : (∀ i, i < 2 → x = nI i → kp i = none) → Q 0 I L r) (h1 : ∀ i u, i < 2 → x = nI i → kp i = some u → ∀ M, (∀ c, c ≠ 16 → c ≠ 17 → c ≠ 18 → c ≠ 19 → c ≠ 21 → M c = I c) → XMr s u M 16 → XH s [] M → Q 1 M L r) : rt_Call G (d + 2) kX1_restore [.ref 21, .int x, .ref 16] I L r Q := by
  have hno : ¬ inr x 2 → ∀ i, i < 2 → x = nI i → kp i = none := fun q i hi e => absurd ((inr_iff (by omega)).mpr ⟨i, hi, e⟩) q
  refine v_X1_restore _ _ _ _ ⟨fun z => h0 (hno (fun q => q.1 z)), fun z => ⟨fun z2 => h0 (hno (fun q => absurd q.2 (Int32.not_lt.mpr z2))), fun z2 => ?_⟩⟩
  obtain ⟨i, hi, rfl⟩ := (inr_iff (n := 2) (by omega)).mp ⟨z, Int32.not_le.mp z2⟩
  have hv : vp_in (nI i) 2 := vp_nI rfl hi (by omega)
  rw [cl (n := i) rfl (by omega)]
  obtain ⟨a, b⟩ := hH i hi
  refine ⟨hv, fun y => ?_, fun y => ?_⟩
  · cases hki : kp i with
    | none => exact absurd (a hki) y
    | some u =>
      obtain ⟨b1, b2⟩ := b u hki
      obtain ⟨hl, f, h2, h3, h4, h5⟩ := hU
      refine ⟨hv, 96 + 4 * i, kept_pt r ⟨i, hi⟩, cp_q (mobs_of (by omega)) (h1 i u hi rfl hki _ (fun c a1 a2 a3 a4 a5 => by rw [rt_u_ne a5, cpI_out _ _ _ (by omega)]) ((cpI_mo hk b2).fr (fun c a b => rt_u_ne (by omega))) ⟨by simp, f, h2, ?_, ?_, fun j w hw => by simp at hw⟩)⟩
      · rw [rt_u1 (by decide), cpI_out _ _ _ (by omega)]; exact h3
      · rw [rt_u_at]; rfl
  · refine h0 (fun j hj e => ?_)
    obtain rfl := (nI_eq (by omega) (by omega)).mp e
    cases hki : kp i with
    | none => rfl
    | some u => 
      rw [(b u hki).1] at y
      exact absurd y (by decide)
theorem wX1_forgetAll {us : List (Nat → Int32)} (hU : XH s us I) (hQ : ∀ M, (∀ c, c ≠ 21 → c ≠ 24 → M c = I c) → (∃ f, f < 13 ∧ M 21 4 = nI f) → M 21 5 = 0 → M 24 0 = 0 → M 24 1 = 0 → Q 0 M L r) : rt_Call G d kX1_forgetAll [.ref 21] I L r Q := by
  obtain ⟨hl, f, h2, h3, h4, h5⟩ := hU
  refine v_X1_forgetAll _ _ _ (v_X1_forgetAll_7 _ _ _ _ ⟨fun z => absurd z (by decide), fun _ => ⟨vp_nI (n := 0) rfl (by omega) (by omega), v_X1_forgetAll_7 _ _ _ _ ⟨fun z => absurd z (by decide), fun _ => ⟨vp_nI (n := 1) (by decide) (by omega) (by omega), v_X1_forgetAll_7 _ _ _ _ ⟨fun _ => hQ _ (fun c a b => by rw [rt_u_ne b, rt_u_ne b, rt_u_ne a]) ⟨f, h2, ?_⟩ ?_ ?_ ?_, fun z => absurd (by decide) z⟩⟩⟩⟩⟩)
  · rw [rt_u2 (by decide), rt_u2 (by decide), rt_u1 (by decide)]; exact h3
  · rw [rt_u2 (by decide), rt_u2 (by decide), rt_u_at]
  · rw [rt_u1 (by decide)]
    exact (rt_u_at).trans nar0
  · exact (rt_u_at).trans nar0
end
