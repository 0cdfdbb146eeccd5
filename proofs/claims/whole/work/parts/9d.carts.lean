/-! carts(): the class -/
def v8 (x l h : Int32) : Nat → Int32 := fun i => match i with
  | 0 => x
  | 1 => -1
  | 2 => -1
  | 3 => 0
  | 4 => l
  | 5 => h
  | _ => 0
def e8 (e : Nat → Int32) (b : Nat) (x l h : Int32) : Nat → Int32 := upd (upd (upd (upd (upd (upd (upd (upd e (b + 0) x) (b + 1) (-1)) (b + 2) (-1)) (b + 3) 0) (b + 6) 0) (b + 4) l) (b + 5) h) (b + 7) 0
theorem e8_lo {e : Nat → Int32} {b j : Nat} {x l h : Int32} (hj : j < b ∨ b + 8 ≤ j) : e8 e b x l h j = e j := by
  unfold e8
  rw [upd1 (by omega), upd1 (by omega), upd1 (by omega), upd1 (by omega), upd1 (by omega), upd1 (by omega), upd1 (by omega), upd1 (by omega)]
theorem e8_at {e : Nat → Int32} {b : Nat} {x l h : Int32} : ∀ i, i < 8 → e8 e b x l h (b + i) = v8 x l h i := by
  intro i hi
  unfold e8
  match i with
  | 0 => rw [upd1 (by omega), upd1 (by omega), upd1 (by omega), upd1 (by omega), upd1 (by omega), upd1 (by omega), upd1 (by omega), upd0]; rfl
  | 1 => rw [upd1 (by omega), upd1 (by omega), upd1 (by omega), upd1 (by omega), upd1 (by omega), upd1 (by omega), upd0]; rfl
  | 2 => rw [upd1 (by omega), upd1 (by omega), upd1 (by omega), upd1 (by omega), upd1 (by omega), upd0]; rfl
  | 3 => rw [upd1 (by omega), upd1 (by omega), upd1 (by omega), upd1 (by omega), upd0]; rfl
  | 4 => rw [upd1 (by omega), upd1 (by omega), upd0]; rfl
  | 5 => rw [upd1 (by omega), upd0]; rfl
  | 6 => rw [upd1 (by omega), upd1 (by omega), upd1 (by omega), upd0]; rfl
  | 7 => rw [upd0]; rfl
  | i + 8 => omega
theorem e8_ag {f g : Nat → Int32} {b : Nat} {x l h : Int32} (hf : AG b f g) : AG (b + 8) (e8 f b x l h) (e8 g b x l h) := by
  intro j hj
  rcases Nat.lt_or_ge j b with z | z
  · rw [e8_lo (Or.inl z), e8_lo (Or.inl z)]; exact hf j z
  · obtain ⟨i, rfl⟩ : ∃ i, j = b + i := ⟨j - b, by omega⟩
    rw [e8_at i (by omega), e8_at i (by omega)]
abbrev CFT : Type := Nat × MO
def caF (c : Nat → Int32) (np p : Nat) (D : CFT) : Nat × Option CFT :=
  if 5 ≤ D.1 then (p, none)
  else if ¬ inb (c p - 97) np = true then (p, none)
  else if ¬ dg (c (p + 1)) = true then (p + 1, none)
  else if c (p + 2) = 42 then (p + 3, some (D.1 + 1, e8 D.2 (D.1 * 8) (c p - 97) (c (p + 1) - 48) 1))
  else (p + 2, some (D.1 + 1, e8 D.2 (D.1 * 8) (c p - 97) (c (p + 1) - 48) 0))
def casF (c : Nat → Int32) (np : Nat) : Nat → Nat → Nat → CFT → Nat × Option (Nat × CFT)
  | 0, p, _, _ => (p, none)
  | F + 1, p, k, D => match caF c np p D with
    | (q, none) => (q, none)
    | (q, some D') => if c q = 59 then casF c np F (q + 1) (k + 1) D' else if c q = -1 then (q, some (k, D')) else (q, none)
theorem casF_s {c : Nat → Int32} {np F p k : Nat} {D : CFT} : casF c np (F + 1) p k D = (match caF c np p D with
    | (q, none) => (q, none)
    | (q, some D') => if c q = 59 then casF c np F (q + 1) (k + 1) D' else if c q = -1 then (q, some (k, D')) else (q, none)) := rfl
def rok (s : SV) (e : MO) (k : Nat) : Prop := ∃ x l : Nat, ∃ h : Int32, x < s.np ∧ l ≤ 9 ∧ (h = 0 ∨ h = 1) ∧ ∀ i, i < 8 → e (k * 8 + i) = v8 (nI x) (nI l) h i
def dkc (s : SV) (m : MO) (D : CFT) : Prop := s.nc ≤ D.1 ∧ D.1 ≤ 5 ∧ (∀ j, (j < s.nc * 8 ∨ 40 ≤ j) → D.2 j = m j) ∧ ∀ k, s.nc ≤ k → k < D.1 → rok s D.2 k
theorem caF_pos {f : Nat → Int32} {l p q np : Nat} {D : CFT} {o : Option CFT} (hp : p ≤ l) (h : caF (ch f l) np p D = (q, o)) : q ≤ l ∧ p ≤ q ∧ (¬ o = none → p < q) := by
  have hne : ∀ {x : Nat} {v : Int32}, ch f l x = v → ¬ v = -1 → x < l := fun e1 e2 => ch_in (fun e => e2 (e1.symm.trans e))
  have hinb : ∀ {x n : Nat}, inb (ch f l x - 97) n = true → x < l := fun e1 => ch_in (fun e => by rw [e, inb_neg] at e1; cases e1)
  unfold caF at h
  by_cases z1 : 5 ≤ D.1
  · rw [if_pos z1] at h
    cases h
    exact ⟨by omega, by omega, fun e => absurd rfl e⟩
  rw [if_neg z1] at h
  by_cases z3 : inb (ch f l p - 97) np = true
  rotate_left
  · rw [if_pos z3] at h
    cases h
    exact ⟨by omega, by omega, fun e => absurd rfl e⟩
  rw [if_neg (not_not_intro z3)] at h
  have i2 := hinb z3
  by_cases z5 : dg (ch f l (p + 1)) = true
  rotate_left
  · rw [if_pos z5] at h
    cases h
    exact ⟨by omega, by omega, fun e => absurd rfl e⟩
  rw [if_neg (not_not_intro z5)] at h
  have i4 := dg_lt z5
  by_cases z6 : ch f l (p + 2) = 42
  · rw [if_pos z6] at h
    have i5 := hne z6 (by decide)
    cases h
    exact ⟨by omega, by omega, fun _ => by omega⟩
  · rw [if_neg z6] at h
    cases h
    exact ⟨by omega, by omega, fun _ => by omega⟩
theorem dg_ex {x : Int32} (hx : x = -1 ∨ ∃ b, b < 256 ∧ x = nI b) (h : dg x = true) : ∃ l, l ≤ 9 ∧ x - 48 = nI l := by
  rcases hx with rfl | ⟨b, hb, rfl⟩
  · exact absurd h (by decide)
  · obtain ⟨h1, h2⟩ := (dg_iff _).mp h
    have h3 := mt (n_lt (a := b) (b := 48) rfl rfl (by omega) (by omega)).mpr h1
    have h4 := mt (n_lt (a := 57) (b := b) rfl rfl (by omega) (by omega)).mpr h2
    exact ⟨b - 48, by omega, n_sl (b := 48) (by omega)⟩
theorem caF_ok {s : SV} {m : MO} {c : Nat → Int32} {p q : Nat} {D D' : CFT} (hc : c8 c) (hnp : s.np ≤ 8) (hk : dkc s m D) (h : caF c s.np p D = (q, some D')) : dkc s m D' ∧ D'.1 = D.1 + 1 := by
  obtain ⟨h1, h2, h3, h4⟩ := hk
  have key : ∀ x, (x = 0 ∨ x = 1) → ¬ 5 ≤ D.1 → inb (c p - 97) s.np = true → dg (c (p + 1)) = true → dkc s m (D.1 + 1, e8 D.2 (D.1 * 8) (c p - 97) (c (p + 1) - 48) x) := by
    intro x hx z1 z3 z5
    refine ⟨by show s.nc ≤ D.1 + 1; omega, by show D.1 + 1 ≤ 5; omega, fun j hj => ?_, fun k a1 a2 => ?_⟩
    · show e8 D.2 (D.1 * 8) _ _ _ j = m j
      rw [e8_lo (by omega)]
      exact h3 j hj
    · have a2' : k < D.1 + 1 := a2
      show rok s (e8 D.2 (D.1 * 8) _ _ _) k
      by_cases ek : k = D.1
      · subst ek
        obtain ⟨a, ha, ea⟩ := inb_ex (by omega) z3
        obtain ⟨l, hl, el⟩ := dg_ex (hc _) z5
        exact ⟨a, l, x, ha, hl, hx, fun i hi => by rw [e8_at i hi, ea, el]⟩
      · obtain ⟨a, l, y, b1, b2, b3, b4⟩ := h4 k a1 (by omega)
        exact ⟨a, l, y, b1, b2, b3, fun i hi => by rw [e8_lo (by omega)]; exact b4 i hi⟩
  unfold caF at h
  by_cases z1 : 5 ≤ D.1
  · rw [if_pos z1] at h
    cases h
  rw [if_neg z1] at h
  by_cases z3 : inb (c p - 97) s.np = true
  rotate_left
  · rw [if_pos z3] at h
    cases h
  rw [if_neg (not_not_intro z3)] at h
  by_cases z5 : dg (c (p + 1)) = true
  rotate_left
  · rw [if_pos z5] at h
    cases h
  rw [if_neg (not_not_intro z5)] at h
  by_cases z6 : c (p + 2) = 42
  · rw [if_pos z6] at h
    cases h
    exact ⟨key 1 (Or.inr rfl) z1 z3 z5, rfl⟩
  · rw [if_neg z6] at h
    cases h
    exact ⟨key 0 (Or.inl rfl) z1 z3 z5, rfl⟩
def sNc (s : SV) (nc : Nat) : SV := mkS s.np s.nr nc s.nd s.td s.ph s.st s.rh s.RV s.pat
def fCarts (s : SV) (m : MO) (us : List MO) (kp : Nat → Option MO) (tx : TXT) : STT :=
  if tx.1 = 0 then (0, s, m, us, kp) else match casF (txc tx 40) s.np 81 0 1 (s.nc, m) with
  | (q, none) => (-1 - nI q, s, m, us, kp)
  | (q, some (k, D)) => if q = tx.1 then (nI k, sNc s D.1, D.2, [], fun _ => none) else (-1 - nI q, s, m, us, kp)
theorem dkc_0 {s : SV} {m : MO} (hk : sok s) : dkc s m (s.nc, m) :=
  ⟨Nat.le_refl _, hk.2.2.1, fun _ _ => rfl, fun w a b => absurd b (by show ¬ w < s.nc; omega)⟩
def XCd (D : CFT) (J M : rt_I) (p : Nat) : Prop := Fr M J [1, 12, 17] ∧ M 1 2 = nI p ∧ (∀ j, j ≠ 2 → M 1 j = J 1 j) ∧ M 12 8 = nI D.1 ∧ (∀ j, j ≠ 8 → M 12 j = J 12 j) ∧ AG (D.1 * 8) (M 17) D.2
section
variable {G : rt_G} {d : Nat} {Q : rt_Q} {M J I : rt_I} {L : rt_L} {r l p q : Nat} {D : CFT} {s : SV} {m : MO}
theorem XCd.at (h : XCd D J M p) : XCd D J (rt_u M 1 2 (nI q)) q := by
  obtain ⟨h1, h2, h3, h4⟩ := h
  exact ⟨h1.u (by decide), rt_u_at, fun j hj => by rw [rt_u_n (Or.inr hj)]; exact h3 j hj, h4⟩
theorem pX4_put {k j : Nat} {x1 x2 v : Int32} (h1 : x1 = nI k) (h2 : x2 = nI j) (hk : k < 5) (hj : j < 8) (hQ : Q 0 (rt_u I 17 (k * 8 + j) v) L r) : rt_Call G d kX4_put [.ref 16, .int x1, .int x2, .int v] I L r Q := by
  subst h1 h2
  refine v_X4_put _ _ _ _ _ _ ?_
  simp (disch := omega) only [n8', nI_add, vpT, clT, true_and]
  exact hQ
theorem sX2_readCart (h : XCd D J M p) (hk : dkc s m D) (hnp : s.np ≤ 8) (hs : J 12 1 = nI s.np) (hl : J 1 3 = nI l) (h8 : l ≤ 40) (hp : p ≤ l) (h1 : ∀ M' q D', caF (ch (J 2) l) s.np p D = (q, some D') → XCd D' J M' q → Q 1 M' L r) (h0 : ∀ M' q, caF (ch (J 2) l) s.np p D = (q, none) → XCd D J M' q → Q 0 M' L r) : rt_Call G (d + 3) kX2_readCart [.ref 12, .ref 1] M L r Q := by
  have k5 := hk.2.1
  have e8' := h.2.2.2.1
  have e2 : M 2 = J 2 := h.1 2 (by decide)
  have el : M 1 3 = nI l := (h.2.2.1 3 (by decide)).trans hl
  have hg : ∀ q, (rt_u M 1 2 (nI q)) 2 = J 2 := fun q => (h.at (q := q)).1 2 (by decide)
  refine v_X2_readCart _ _ _ ⟨fun z => ?_, fun z => ?_⟩
  rotate_left
  · have z2 := mt (n_lt (a := D.1) (b := 5) e8' rfl (by omega) (by omega)).mpr z
    exact h0 M p (by unfold caF; rw [if_pos (by omega)]) h
  have z2 := (n_lt (a := D.1) (b := 5) e8' rfl (by omega) (by omega)).mp z
  have g1 : ¬ 5 ≤ D.1 := by omega
  refine tX7_takeLetter (p := p) (l := l) h.2.1 el (by omega) (by omega) ((h.2.2.2.2.1 1 (by decide)).trans hs) (fun y => ⟨fun _ => ?_, fun x => ?_⟩) (fun y => ⟨fun x => absurd rfl x, fun _ => ?_⟩)
  rotate_left
  · obtain ⟨a, ha, ea⟩ := inb_ex (by omega) y
    rw [ea] at x
    exact absurd x (n_ne1 (by omega))
  · rw [e2] at y
    exact h0 _ p (by unfold caF; rw [if_neg g1, if_pos y]) h
  rw [e2] at y ⊢
  have g2 : ¬ ¬ inb (ch (J 2) l p - 97) s.np = true := not_not_intro y
  have hA := h.at (q := p + 1)
  refine tX7_takeNumber (p := p + 1) (l := l) (k := 1) (by omega) rt_u_at el (by omega) (by omega) (fun y2 => ⟨fun x => absurd rfl x, fun _ => ?_⟩) (fun y2 => ⟨fun _ => ?_, fun x => absurd x nmv_ne1⟩)
  · rw [hg] at y2
    exact h0 _ (p + 1) (by unfold caF; rw [if_neg g1, if_neg g2, if_pos y2]) hA
  rw [hg] at y2 ⊢
  rw [nmv_1 y2, rt_u_u]
  dsimp only
  have g3 : ¬ ¬ dg (ch (J 2) l (p + 1)) = true := not_not_intro y2
  have hB := h.at (q := p + 1 + 1)
  have eB : (rt_u M 1 2 (nI (p + 1 + 1))) 12 8 = nI D.1 := hB.2.2.2.1
  have hb5 : D.1 < 5 := z2
  refine v_X4_putAtPlace _ _ _ _ _ (pX4_put (k := D.1) (j := 0) eB rfl hb5 (by omega) (pX4_put (k := D.1) (j := 1) eB rfl hb5 (by omega) (pX4_put (k := D.1) (j := 2) eB rfl hb5 (by omega) (pX4_put (k := D.1) (j := 3) eB rfl hb5 (by omega) (pX4_put (k := D.1) (j := 6) eB rfl hb5 (by omega) (pX4_put (k := D.1) (j := 4) eB rfl hb5 (by omega) ?_))))))
  obtain ⟨W, hW⟩ : ∃ W, W = rt_u (rt_u (rt_u (rt_u (rt_u (rt_u M 17 (D.1 * 8 + 0) (ch (J 2) l p - 97)) 17 (D.1 * 8 + 1) (-1)) 17 (D.1 * 8 + 2) (-1)) 17 (D.1 * 8 + 3) 0) 17 (D.1 * 8 + 6) 0) 17 (D.1 * 8 + 4) (ch (J 2) l (p + 1) - 48) := ⟨_, rfl⟩
  have eW : rt_u (rt_u (rt_u (rt_u (rt_u (rt_u (rt_u M 1 2 (nI (p + 1 + 1))) 17 (D.1 * 8 + 0) (ch (J 2) l p - 97)) 17 (D.1 * 8 + 1) (-1)) 17 (D.1 * 8 + 2) (-1)) 17 (D.1 * 8 + 3) 0) 17 (D.1 * 8 + 6) 0) 17 (D.1 * 8 + 4) (ch (J 2) l (p + 1) - 48) = rt_u W 1 2 (nI (p + 2)) := by
    rw [hW, rt_u_c (c := 17) (c2 := 1) (Or.inl (by decide)), rt_u_c (c := 17) (c2 := 1) (Or.inl (by decide)), rt_u_c (c := 17) (c2 := 1) (Or.inl (by decide)), rt_u_c (c := 17) (c2 := 1) (Or.inl (by decide)), rt_u_c (c := 17) (c2 := 1) (Or.inl (by decide)), rt_u_c (c := 17) (c2 := 1) (Or.inl (by decide))]
  rw [eW]
  have W17 : W 17 = upd (upd (upd (upd (upd (upd (M 17) (D.1 * 8 + 0) (ch (J 2) l p - 97)) (D.1 * 8 + 1) (-1)) (D.1 * 8 + 2) (-1)) (D.1 * 8 + 3) 0) (D.1 * 8 + 6) 0) (D.1 * 8 + 4) (ch (J 2) l (p + 1) - 48) := by
    rw [hW, rt_u_eq, rt_u_eq, rt_u_eq, rt_u_eq, rt_u_eq, rt_u_eq]
  have Wn : ∀ c, c ≠ 17 → W c = M c := fun c hc => by rw [hW, rt_u_ne hc, rt_u_ne hc, rt_u_ne hc, rt_u_ne hc, rt_u_ne hc, rt_u_ne hc]
  have eW2 : ∀ q, (rt_u W 1 2 (nI q)) 2 = J 2 := fun q => by rw [rt_u_ne (by decide), Wn 2 (by decide)]; exact e2
  have eW8 : ∀ q, (rt_u W 1 2 (nI q)) 12 8 = nI D.1 := fun q => by rw [rt_u2 (by decide), Wn 12 (by decide)]; exact e8'
  have fin : ∀ q x, XCd (D.1 + 1, e8 D.2 (D.1 * 8) (ch (J 2) l p - 97) (ch (J 2) l (p + 1) - 48) x) J (rt_u (rt_u (rt_u (rt_u W 1 2 (nI q)) 17 (D.1 * 8 + 5) x) 17 (D.1 * 8 + 7) 0) 12 8 (nI (D.1 + 1))) q := by
    intro q x
    obtain ⟨x1, x2, x3, x4, x5, x6⟩ := h
    refine ⟨fun c hc => ?_, ?_, fun j hj => ?_, rt_u_at, fun j hj => ?_, ?_⟩
    · simp only [List.mem_cons, List.not_mem_nil, or_false, not_or] at hc
      rw [rt_u_ne hc.2.1, rt_u_ne hc.2.2, rt_u_ne hc.2.2, rt_u_ne hc.1, Wn c hc.2.2]
      exact x1 c (by simp only [List.mem_cons, List.not_mem_nil, or_false, not_or]; exact hc)
    · rw [rt_u2 (by decide), rt_u2 (by decide), rt_u2 (by decide), rt_u_at]
    · rw [rt_u2 (by decide), rt_u2 (by decide), rt_u2 (by decide), rt_u1 hj, Wn 1 (by decide)]; exact x3 j hj
    · rw [rt_u1 hj, rt_u2 (by decide), rt_u2 (by decide), rt_u2 (by decide), Wn 12 (by decide)]; exact x5 j hj
    · show AG ((D.1 + 1) * 8) _ _
      rw [rt_u_ne (by decide), rt_u_eq, rt_u_eq, rt_u_ne (by decide), W17, show (D.1 + 1) * 8 = D.1 * 8 + 8 from by omega]
      exact e8_ag x6
  refine tX7_take (p := p + 2) (l := l) rt_u_at (by rw [rt_u1 (by decide), Wn 1 (by decide)]; exact el) (by omega) (by omega) (fun y4 => ⟨fun x => absurd x (by decide), fun _ => ?_⟩) (fun y4 => ⟨fun _ => ?_, fun x => absurd rfl x⟩)
  · rw [eW2] at y4
    rw [rt_u_u]
    refine pX4_put (k := D.1) (j := 5) (eW8 _) rfl hb5 (by omega) (pX4_put (k := D.1) (j := 7) ?_ rfl hb5 (by omega) ?_)
    · rw [rt_u2 (by decide)]; exact eW8 _
    · have e8f : (rt_u (rt_u (rt_u W 1 2 (nI (p + 2 + 1))) 17 (D.1 * 8 + 5) 1) 17 (D.1 * 8 + 7) 0) 12 8 = nI D.1 := by
        rw [rt_u2 (by decide), rt_u2 (by decide)]; exact eW8 _
      rw [e8f, nI_1]
      exact h1 _ _ _ (by unfold caF; rw [if_neg g1, if_neg g2, if_neg g3, if_pos y4]) (fin (p + 3) 1)
  · rw [eW2] at y4
    refine pX4_put (k := D.1) (j := 5) (eW8 _) rfl hb5 (by omega) (pX4_put (k := D.1) (j := 7) ?_ rfl hb5 (by omega) ?_)
    · rw [rt_u2 (by decide)]; exact eW8 _
    · have e8f : (rt_u (rt_u (rt_u W 1 2 (nI (p + 2))) 17 (D.1 * 8 + 5) 0) 17 (D.1 * 8 + 7) 0) 12 8 = nI D.1 := by
        rw [rt_u2 (by decide), rt_u2 (by decide)]; exact eW8 _
      rw [e8f, nI_1]
      exact h1 _ _ _ (by unfold caF; rw [if_neg g1, if_neg g2, if_neg g3, if_neg y4]) (fin (p + 2) 0)
end
