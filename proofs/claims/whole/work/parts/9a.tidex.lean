/-! tide(): the class -/
def rnF (c : Nat → Int32) (p : Nat) : Nat × Option (Int32 × Int32 × Int32) :=
  match nbR c 2 60 p none with
  | (_, _, some q) => (q, none)
  | (a, p1, none) => if ¬ c p1 = 42 then (p1, none) else
    match nbR c 0 60 (p1 + 1) none with
    | (_, _, some q) => (q, none)
    | (b, p2, none) => if ¬ c p2 = 47 then (p2, some (a, b, 0)) else
      match nbR c 0 59 (p2 + 1) none with
      | (_, _, some q) => (q, none)
      | (e, p3, none) => (p3, some (a, b, e))
def td3 (td : Nat → Int32) (k : Nat) (t : Int32 × Int32 × Int32) : Nat → Int32 := upd (upd (upd td k t.1) (k + 1) t.2.1) (k + 2) t.2.2
def tdF (c : Nat → Int32) : Nat → Nat → Nat → (Nat → Int32) → Nat × Option (Nat × (Nat → Int32))
  | 0, _, p, _ => (p, none)
  | F + 1, i, p, td => match rnF c p with
    | (q, none) => (q, none)
    | (q, some t) => if c q = -1 then (q, some (i + 1, td3 td (i * 3) t)) else if i = 2 then (q, none) else if c q = 43 then tdF c F (i + 1) (q + 1) (td3 td (i * 3) t) else (q, none)
def sTd (s : SV) (k : Nat) (td : Nat → Int32) : SV := mkS s.np s.nr s.nc k td s.ph s.st s.rh s.RV s.pat
def fTide (s : SV) (tx : TXT) : Int32 × SV := match tdF (txc tx 80) 3 0 0 (fun _ => 0) with
  | (q, none) => (-1 - nI q, s)
  | (_, some (k, td)) => (nI k, sTd s k td)
theorem nbR_le {c : Nat → Int32} {lo hi : Int32} {p : Nat} {w : Option Nat} : p ≤ (nbR c lo hi p w).2.1 ∧ (nbR c lo hi p w).2.1 ≤ p + 2 := by
  unfold nbR
  split
  · exact nmR_le
  · exact nmR_le
theorem nbR_cases {c : Nat → Int32} {lo hi : Int32} {p : Nat} : (¬ dg (c p) = true ∧ nbR c lo hi p none = (0, p, some p)) ∨
    (dg (c p) = true ∧ ¬ (¬ (nmv c 2 p 0).1 < lo ∧ ¬ hi < (nmv c 2 p 0).1) ∧ nbR c lo hi p none = ((nmv c 2 p 0).1, (nmv c 2 p 0).2, some ((nmv c 2 p 0).2 - 1))) ∨
    (dg (c p) = true ∧ (¬ (nmv c 2 p 0).1 < lo ∧ ¬ hi < (nmv c 2 p 0).1) ∧ nbR c lo hi p none = ((nmv c 2 p 0).1, (nmv c 2 p 0).2, none)) := by
  by_cases h : dg (c p) = true
  · unfold nbR
    rw [nmR_t h]
    by_cases h2 : ¬ (nmv c 2 p 0).1 < lo ∧ ¬ hi < (nmv c 2 p 0).1
    · exact Or.inr (Or.inr ⟨h, h2, if_neg (fun z => z.2 h2)⟩)
    · exact Or.inr (Or.inl ⟨h, h2, if_pos ⟨rfl, h2⟩⟩)
  · refine Or.inl ⟨h, ?_⟩
    unfold nbR
    rw [nmR_f h]
    exact if_neg (fun z => by cases z.1)
theorem nmv_gt {c : Nat → Int32} {p : Nat} (h : dg (c p) = true) : p < (nmv c 2 p 0).2 := by
  have := nmR_pos (c := c) (k := 2) (p := p) (w := none) (by omega) (by rw [nmR_t h])
  rw [nmR_t h] at this
  exact this
theorem nbR_lim {f : Nat → Int32} {l p : Nat} {lo hi : Int32} (hp : p ≤ l) : (nbR (ch f l) lo hi p none).2.1 ≤ l ∧ ∀ q, (nbR (ch f l) lo hi p none).2.2 = some q → q ≤ l := by
  have h1 := nmv_lt (f := f) (l := l) 2 p 0 hp
  rcases nbR_cases (c := ch f l) (lo := lo) (hi := hi) (p := p) with ⟨_, e⟩ | ⟨_, _, e⟩ | ⟨_, _, e⟩
  · rw [e]; exact ⟨hp, fun q hq => by cases hq; exact hp⟩
  · rw [e]; exact ⟨h1, fun q hq => by cases hq; omega⟩
  · rw [e]; exact ⟨h1, fun q hq => by cases hq⟩
theorem rnF_lim {f : Nat → Int32} {l p q : Nat} {o : Option (Int32 × Int32 × Int32)} (hp : p ≤ l) (h : rnF (ch f l) p = (q, o)) : q ≤ l := by
  unfold rnF at h
  have a1 := nbR_lim (f := f) (l := l) (p := p) (lo := 2) (hi := 60) hp
  generalize nbR (ch f l) 2 60 p none = r1 at *
  obtain ⟨a, p1, w1⟩ := r1
  cases w1 with
  | some q1 =>
    dsimp only at h
    cases h
    exact a1.2 q rfl
  | none =>
    dsimp only at h a1
    by_cases y1 : ch f l p1 = 42
    rotate_left
    · rw [if_pos y1] at h
      cases h
      exact a1.1
    rw [if_neg (not_not_intro y1)] at h
    have i1 := ch_in (f := f) (l := l) (p := p1) (by rw [y1]; decide)
    have a2 := nbR_lim (f := f) (l := l) (p := p1 + 1) (lo := 0) (hi := 60) (by omega)
    generalize nbR (ch f l) 0 60 (p1 + 1) none = r2 at *
    obtain ⟨b, p2, w2⟩ := r2
    cases w2 with
    | some q1 =>
      dsimp only at h
      cases h
      exact a2.2 q rfl
    | none =>
      dsimp only at h a2
      by_cases y2 : ch f l p2 = 47
      rotate_left
      · rw [if_pos y2] at h
        cases h
        exact a2.1
      rw [if_neg (not_not_intro y2)] at h
      have i2 := ch_in (f := f) (l := l) (p := p2) (by rw [y2]; decide)
      have a3 := nbR_lim (f := f) (l := l) (p := p2 + 1) (lo := 0) (hi := 59) (by omega)
      generalize nbR (ch f l) 0 59 (p2 + 1) none = r3 at *
      obtain ⟨e, p3, w3⟩ := r3
      cases w3 with
      | some q1 =>
        dsimp only at h
        cases h
        exact a3.2 q rfl
      | none =>
        dsimp only at h
        cases h
        exact a3.1
section
variable {G : rt_G} {d : Nat} {Q : rt_Q} {M I J : rt_I} {L : rt_L} {r l p k : Nat}
def XPt (M I : rt_I) (p : Nat) : Prop := Fr M I [1, 5] ∧ M 1 2 = nI p ∧ ∀ j, j ≠ 2 → M 1 j = I 1 j
theorem XPt.at {q : Nat} (h : XPt M I p) : XPt (rt_u M 1 2 (nI q)) I q := ⟨h.1.u (by decide), rt_u_at, fun j hj => by rw [rt_u_n (Or.inr hj)]; exact h.2.2 j hj⟩
theorem XPt.w {j : Nat} {v : Int32} (h : XPt M I p) : XPt (rt_u M 5 j v) I p := ⟨h.1.u (by decide), h.2.1, h.2.2⟩
theorem sX8_readPart {lo hi x2 : Int32} (h : XPt M I p) (hl : I 1 3 = nI l) (h8 : l ≤ 80) (hp : p ≤ l + 1) (hx : x2 = nI k) (hk : k < 9)
    (h1 : ∀ v q, nbR (ch (I 2) l) lo hi p none = (v, q, none) → Q 1 (rt_u (rt_u M 1 2 (nI q)) 5 k v) L r)
    (h0 : ∀ v p' q, nbR (ch (I 2) l) lo hi p none = (v, p', some q) → Q 0 (rt_u M 1 2 (nI q)) L r) : rt_Call G (d + 3) kX8_readPart [.ref 3, .ref 1, .int x2, .int lo, .int hi] M L r Q := by
  have e2 : M 2 = I 2 := h.1 2 (by decide)
  have el : M 1 3 = nI l := (h.2.2 3 (by decide)).trans hl
  refine v_X8_readPart _ _ _ _ _ _ (tX7_takeNumber (p := p) (l := l) (k := 2) (by omega) h.2.1 el (by omega) (by omega) (fun y => ⟨fun x => absurd rfl x, fun _ => ?_⟩) (fun y => ⟨fun _ => ?_, fun x => absurd x nmv_ne⟩))
  · rw [e2] at y
    rcases nbR_cases (c := ch (I 2) l) (lo := lo) (hi := hi) (p := p) with ⟨_, e⟩ | ⟨e0, _, e⟩ | ⟨e0, _, e⟩
    · have := h0 _ _ _ e
      rw [show rt_u M 1 2 (nI p) = M from rt_u_id h.2.1] at this
      exact this
    · exact absurd e0 y
    · exact absurd e0 y
  · rw [e2] at y ⊢
    have hgt := nmv_gt y
    have em : rt_u (rt_u M 1 2 (nI (nmv (ch (I 2) l) 2 p 0).2)) 1 2 ((rt_u M 1 2 (nI (nmv (ch (I 2) l) 2 p 0).2)) 1 2 - 1) = rt_u M 1 2 (nI ((nmv (ch (I 2) l) 2 p 0).2 - 1)) := by
      rw [rt_u_u, rt_u_at, n_sl (b := 1) (by omega)]
    rw [em]
    rcases nbR_cases (c := ch (I 2) l) (lo := lo) (hi := hi) (p := p) with ⟨e0, e⟩ | ⟨e0, e1, e⟩ | ⟨e0, e1, e⟩
    · exact absurd y e0
    · refine ⟨fun _ => h0 _ _ _ e, fun z => ⟨fun z2 => absurd ⟨z, Int32.not_lt.mpr z2⟩ e1, fun _ => h0 _ _ _ e⟩⟩
    · refine ⟨fun z => absurd z e1.1, fun z => ⟨fun z2 => ⟨vp_nI hx (by omega) (by omega), ?_⟩, fun z2 => absurd (Int32.not_lt.mp e1.2) z2⟩⟩
      rw [cl hx (by omega)]
      exact h1 _ _ e
theorem sX8_readRound {x2 : Int32} (h : XPt M I p) (hl : I 1 3 = nI l) (h8 : l ≤ 80) (hp : p ≤ l) (hx : x2 = nI k) (hk : k + 2 < 9)
    (h1 : ∀ q t M', rnF (ch (I 2) l) p = (q, some t) → XPt M' I q → (∀ j, M' 5 j = td3 (M 5) k t j) → Q 1 M' L r)
    (h0 : ∀ q M', rnF (ch (I 2) l) p = (q, none) → XPt M' I q → Q 0 M' L r) : rt_Call G (d + 4) kX8_readRound [.ref 3, .ref 1, .int x2] M L r Q := by
  have hlim : ∀ p' lo hi v q, p' ≤ l → nbR (ch (I 2) l) lo hi p' none = (v, q, none) → q ≤ l := fun p' lo hi v q hp' e => by
    have := (nbR_lim (f := I 2) (l := l) (p := p') (lo := lo) (hi := hi) hp').1
    rw [e] at this
    exact this
  have e2 : ∀ {A : rt_I} {q : Nat}, XPt A I q → A 2 = I 2 := fun a => a.1 2 (by decide)
  have el : ∀ {A : rt_I} {q : Nat}, XPt A I q → A 1 3 = nI l := fun a => (a.2.2 3 (by decide)).trans hl
  have hx1 : x2 + 1 = nI (k + 1) := by rw [hx]; exact na1 k
  have hx2 : x2 + 2 = nI (k + 2) := by rw [hx]; exact na2 k
  have hR : rnF (ch (I 2) l) p = rnF (ch (I 2) l) p := rfl
  conv at hR => rhs; unfold rnF
  refine v_X8_readRound _ _ _ _ (sX8_readPart h hl h8 (by omega) hx (by omega) (fun v q e => ⟨fun z => absurd z (by decide), fun _ => ?_⟩) (fun v p' q e => ⟨fun _ => ?_, fun z => absurd rfl z⟩))
  rotate_left
  · rw [e] at hR
    exact h0 _ _ hR h.at
  rw [e] at hR
  dsimp only at hR
  have q1 := hlim _ _ _ _ _ hp e
  have hA := (h.at (q := q)).w (j := k) (v := v)
  refine tX7_take (p := q) (l := l) hA.2.1 (el hA) (by omega) (by omega) (fun y => ⟨fun z => absurd z (by decide), fun _ => ?_⟩) (fun y => ⟨fun _ => ?_, fun z => absurd rfl z⟩)
  rotate_left
  · rw [e2 hA] at y
    rw [if_pos y] at hR
    exact h0 _ _ hR hA
  rw [e2 hA] at y
  rw [if_neg (not_not_intro y)] at hR
  have i1 := ch_in (f := I 2) (l := l) (p := q) (by rw [y]; decide)
  have hB := hA.at (q := q + 1)
  refine sX8_readPart hB hl h8 (by omega) hx1 (by omega) (fun v2 q2 e' => ⟨fun _ => ⟨vp_nI hx2 (by omega) (by omega), ?_⟩, fun z => absurd z (by decide)⟩) (fun v2 p' q2 e' => ⟨fun z => absurd rfl z, fun _ => ?_⟩)
  rotate_left
  · rw [e'] at hR
    exact h0 _ _ hR hB.at
  rw [e'] at hR
  dsimp only at hR
  rw [cl hx2 (by omega)]
  have q2l := hlim _ _ _ _ _ (by omega) e'
  have hC := ((hB.at (q := q2)).w (j := k + 1) (v := v2)).w (j := k + 2) (v := 0)
  have c5 : ∀ A : rt_I, ∀ a b : Nat, ∀ x y : Int32, (rt_u (rt_u A 1 a x) 1 b y) 5 = A 5 := fun A a b x y => by rw [rt_u_ne (by decide), rt_u_ne (by decide)]
  have hC5 : ∀ a x, (rt_u (rt_u (rt_u (rt_u (rt_u (rt_u (rt_u M 1 2 (nI q)) 5 k v) 1 2 (nI (q + 1))) 1 2 (nI q2)) 5 (k + 1) v2) 5 (k + 2) 0) 1 a x) 5 = td3 (M 5) k (v, v2, 0) := fun a x => by
    rw [rt_u_ne (by decide), rt_u_eq, rt_u_eq, c5, rt_u_eq, rt_u_ne (by decide)]
    rfl
  refine tX7_take (p := q2) (l := l) hC.2.1 (el hC) (by omega) (by omega) (fun y2 => ⟨fun z => absurd z (by decide), fun _ => ?_⟩) (fun y2 => ⟨fun _ => ?_, fun z => absurd rfl z⟩)
  rotate_left
  · rw [e2 hC] at y2
    rw [if_pos y2] at hR
    refine h1 _ _ _ hR hC (fun j => ?_)
    have := hC5 2 (nI q2)
    rw [rt_u_ne (by decide)] at this
    rw [this]
  rw [e2 hC] at y2
  rw [if_neg (not_not_intro y2)] at hR
  have i2 := ch_in (f := I 2) (l := l) (p := q2) (by rw [y2]; decide)
  have hE := hC.at (q := q2 + 1)
  refine sX8_readPart hE hl h8 (by omega) hx2 (by omega) (fun v3 q3 e3 => ⟨fun z => absurd z (by decide), fun _ => ?_⟩) (fun v3 p' q3 e3 => ⟨fun _ => ?_, fun z => absurd rfl z⟩)
  rotate_left
  · rw [e3] at hR
    exact h0 _ _ hR hE.at
  rw [e3] at hR
  refine h1 _ _ _ hR ((hE.at (q := q3)).w (j := k + 2) (v := v3)) (fun j => ?_)
  rw [rt_u_eq, rt_u_ne (by decide), hC5]
  unfold td3
  dsimp only
  by_cases ej : j = k + 2
  · subst ej; rw [upd0, upd0]
  · rw [upd1 ej, upd1 ej, upd1 ej]
end
