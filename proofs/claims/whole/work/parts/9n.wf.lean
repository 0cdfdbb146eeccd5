/-! WHAT HOLDS OF THE STATE, kept by every call -/
def wf (B : Nat) (s : SV) (m : MO) (us : List MO) (kp : Nat → Option MO) (mk : MKT) (row : List Int32) (tx : TXT) : Prop :=
  sok s ∧ mok s B m ∧ (∀ u, u ∈ us → mok s B u) ∧ (∀ i u, i < 2 → kp i = some u → mok s B u) ∧ mk.1 ≤ 10 ∧ row.length ≤ 16 ∧ tok tx
def INV (B : Nat) (I : rt_I) : Prop := ∃ s m us kp mk row tx, XI s m us kp mk row tx I ∧ MI B s m us kp mk row tx I ∧ wf B s m us kp mk row tx
theorem INV.fr {B : Nat} {I M : rt_I} (h : INV B I) (hf : M = I) : INV B M := hf ▸ h
section
variable {B B' : Nat} {s : SV} {m : MO} {us : List MO} {kp : Nat → Option MO} {mk : MKT} {row : List Int32} {tx : TXT} {I : rt_I}
theorem MI.up (h : MI B s m us kp mk row tx I) (hB : B ≤ B') : MI B' s m us kp mk row tx I := by
  obtain ⟨h1, h2, h3, h4, h5⟩ := h
  exact ⟨h1, h2, h3, h4.mono hB, h5⟩
theorem wf.up (h : wf B s m us kp mk row tx) (hB : B ≤ B') : wf B' s m us kp mk row tx := by
  obtain ⟨h1, h2, h3, h4, h5⟩ := h
  exact ⟨h1, h2.mono hB, fun u hu => (h3 u hu).mono hB, fun i u a b => (h4 i u a b).mono hB, h5⟩
theorem wf.row' {row' : List Int32} (h : wf B s m us kp mk row tx) (hl : row'.length ≤ 16) : wf B s m us kp mk row' tx := by
  obtain ⟨h1, h2, h3, h4, h5, h6, h7⟩ := h
  exact ⟨h1, h2, h3, h4, h5, hl, h7⟩
theorem wf.tx' {tx' : TXT} (h : wf B s m us kp mk row tx) (hl : tok tx') : wf B s m us kp mk row tx' := by
  obtain ⟨h1, h2, h3, h4, h5, h6, h7⟩ := h
  exact ⟨h1, h2, h3, h4, h5, h6, hl⟩
theorem wf.mk' {mk' : MKT} (h : wf B s m us kp mk row tx) (hl : mk'.1 ≤ 10) : wf B s m us kp mk' row tx := by
  obtain ⟨h1, h2, h3, h4, h5, h6, h7⟩ := h
  exact ⟨h1, h2, h3, h4, hl, h6, h7⟩
theorem wf.psh {m' : MO} {us' : List MO} (h : wf B s m us kp mk row tx) (hm : mok s B m') (hu : us' = us ∨ us' = (m :: us).take 12) : wf B s m' us' kp mk row tx := by
  obtain ⟨h1, h2, h3, h4, h5⟩ := h
  refine ⟨h1, hm, ?_, h4, h5⟩
  rcases hu with rfl | rfl
  · exact h3
  · intro u hu
    rcases List.mem_cons.mp (List.mem_of_mem_take hu) with rfl | hu
    · exact h2
    · exact h3 u hu
theorem psh_or (v : Int32) : psh v m us = us ∨ psh v m us = (m :: us).take 12 := by
  unfold psh
  split
  · exact Or.inl rfl
  · exact Or.inr rfl
theorem wf.new {s' : SV} {m' : MO} (h : wf B s m us kp mk row tx) (h1 : sok s') (h2 : mok s' B m') : wf B s' m' [] (fun _ => none) mk row (0, tx.2) := by
  obtain ⟨a1, a2, a3, a4, a5, a6, a7⟩ := h
  exact ⟨h1, h2, fun u hu => (by cases hu), fun i u a b => (by cases b), a5, a6, Nat.zero_le _, fun j hj => absurd hj (by show ¬ j < 0; omega)⟩
theorem tok_0 : tok (0, tx.2) := ⟨Nat.zero_le _, fun j hj => absurd hj (by show ¬ j < 0; omega)⟩
/-- a new state with the same counts -/
theorem wf.s' {s' : SV} (h : wf B s m us kp mk row tx) (h1 : sok s') (hm : ∀ u, mok s B u → mok s' B u) : wf B s' m us kp mk row tx := by
  obtain ⟨a1, a2, a3, a4, a5⟩ := h
  exact ⟨h1, hm m a2, fun u hu => hm u (a3 u hu), fun i u a b => hm u (a4 i u a b), a5⟩
theorem ushr_b (v : Int32) {n : Nat} (hn : n ≤ 24) : ∃ b, b < 256 ∧ (rt_ushr v (nI n)) &&& 255 = nI b := by
  rw [sh_eq v hn]
  have h := by_rng (byok8 (v >>> (nI n &&& 31)))
  obtain ⟨b, hb, e⟩ := nI_of h.1
  rw [e] at h ⊢
  have h2 := (n_le (a := b) (b := 255) rfl rfl (by omega) (by omega)).mp h.2
  exact ⟨b, by omega, rfl⟩
theorem tok_1 {v : Int32} {k : Nat} (h : ∀ j, j < tx.1 → ∃ b, b < 256 ∧ tx.2 j = nI b) (hk : k ≤ 24) : ∀ j, j < (sg1 v tx k).1 → ∃ b, b < 256 ∧ (sg1 v tx k).2 j = nI b := by
  intro j hj
  have hj2 : j < tx.1 + 1 := hj
  show ∃ b, b < 256 ∧ upd tx.2 tx.1 _ j = nI b
  by_cases e : j = tx.1
  · subst e
    rw [upd0]
    exact ushr_b v hk
  · rw [upd1 e]
    exact h j (by omega)
theorem fSign_ok {v : Int32} (h : tok tx) : tok (fSign v tx).2 := by
  unfold fSign
  split
  · rename_i z
    refine ⟨?_, tok_1 (tok_1 (tok_1 (tok_1 h.2 (by omega)) (by omega)) (by omega)) (by omega)⟩
    show tx.1 + 1 + 1 + 1 + 1 ≤ 80
    omega
  · exact h
theorem fEnd_ok {x : Int32} (h : tok tx) : tok (fEnd x tx).2 := by
  unfold fEnd
  split
  · rename_i z
    obtain ⟨a, ha, e⟩ := inb_ex (by have := h.1; omega) z
    have h1 := h.1
    have e2 : cc x = a := by rw [e]; exact cc_nI (by omega)
    refine ⟨?_, fun j hj => ?_⟩
    · show cc x ≤ 80
      omega
    · have hj2 : j < cc x := hj
      exact h.2 j (by omega)
  · exact h
theorem sok_pat {x : Int32} (h : sok s) : sok (fPat s x).2 := by
  unfold fPat
  split
  · rename_i z
    obtain ⟨b1, b2, b3, b4, b5, b6, b7⟩ := h
    refine ⟨b1, b2, b3, b4, b5, b6, ?_⟩
    have h0 : ¬ x < 0 := fun y => z.1 (Int32.lt_trans y (by decide))
    obtain ⟨p, hp, rfl⟩ := nI_of h0
    have h1 := mt (n_lt (a := p) (b := 1) rfl rfl hp (by omega)).mpr z.1
    have h2 := (n_le (a := p) (b := 20) rfl rfl hp (by omega)).mp z.2
    exact ⟨p, by omega, by omega, rfl⟩
  · exact h
theorem mok_pat {x : Int32} {u : MO} (h : mok s B u) : mok (fPat s x).2 B u := by
  unfold fPat
  split
  · exact h
  · exact h
theorem sheet_cases {kind n f st : Int32} : (fSheet s kind n f st).2 = s ∨ (fSheet s kind n f st).2 = sRh s (shH kind n f st) := by
  unfold fSheet
  split
  · split
    · exact Or.inr rfl
    · split
      · exact Or.inl rfl
      · exact Or.inr rfl
  · exact Or.inl rfl
theorem rnF_val {c : Nat → Int32} {p q : Nat} {t : Int32 × Int32 × Int32} (h : rnF c p = (q, some t)) : ∃ a b e : Nat, 2 ≤ a ∧ a ≤ 60 ∧ b ≤ 60 ∧ e ≤ 59 ∧ t = (nI a, nI b, nI e) := by
  have key : ∀ {lo hi p q : Nat} {v : Int32}, lo ≤ 99 → hi ≤ 99 → nbR c (nI lo) (nI hi) p none = (v, q, none) → ∃ a, lo ≤ a ∧ a ≤ hi ∧ v = nI a := by
    intro lo hi p q v hlo hhi e
    obtain ⟨a, ha, ea⟩ := nmv_99 (c := c) (p := p)
    rcases nbR_cases (c := c) (lo := nI lo) (hi := nI hi) (p := p) with ⟨_, e2⟩ | ⟨_, _, e2⟩ | ⟨_, z, e2⟩
    · rw [e2] at e; cases e
    · rw [e2] at e; cases e
    · rw [e2] at e
      rw [ea] at z e
      have z1 := mt (nI_ltI (by omega) (by omega)).mpr z.1
      have z2 := mt (nI_ltI (by omega) (by omega)).mpr z.2
      cases e
      exact ⟨a, by omega, by omega, rfl⟩
  unfold rnF at h
  have k1 := @key 2 60 p
  rw [show nI 2 = (2 : Int32) from rfl, show nI 60 = (60 : Int32) from rfl] at k1
  generalize nbR c 2 60 p none = r1 at *
  obtain ⟨v1, p1, w1⟩ := r1
  cases w1 with
  | some q1 => cases h
  | none =>
    dsimp only at h
    obtain ⟨a, a1, a2, rfl⟩ := k1 (by omega) (by omega) rfl
    split at h
    · cases h
    have k2 := @key 0 60 (p1 + 1)
    rw [show nI 0 = (0 : Int32) from rfl, show nI 60 = (60 : Int32) from rfl] at k2
    generalize nbR c 0 60 (p1 + 1) none = r2 at *
    obtain ⟨v2, p2, w2⟩ := r2
    cases w2 with
    | some q1 => cases h
    | none =>
      dsimp only at h
      obtain ⟨b, b1, b2, rfl⟩ := k2 (by omega) (by omega) rfl
      split at h
      · cases h
        exact ⟨a, b, 0, a1, a2, b2, by omega, rfl⟩
      have k3 := @key 0 59 (p2 + 1)
      rw [show nI 0 = (0 : Int32) from rfl, show nI 59 = (59 : Int32) from rfl] at k3
      generalize nbR c 0 59 (p2 + 1) none = r3 at *
      obtain ⟨v3, p3, w3⟩ := r3
      cases w3 with
      | some q1 => cases h
      | none =>
        dsimp only at h
        obtain ⟨e, e1, e2, rfl⟩ := k3 (by omega) (by omega) rfl
        cases h
        exact ⟨a, b, e, a1, a2, b2, e2, rfl⟩
theorem tdF_val {c : Nat → Int32} : ∀ (F i p : Nat) (td : Nat → Int32) (q k : Nat) (td' : Nat → Int32), i + F = 3 → (∀ j, j < i → tdk td j) → tdF c F i p td = (q, some (k, td')) → 1 ≤ k ∧ k ≤ 3 ∧ ∀ j, j < k → tdk td' j := by
  intro F
  induction F with
  | zero => intro i p td q k td' _ _ h; cases h
  | succ F ih =>
    intro i p td q k td' hi htd h
    rw [tdF_s] at h
    cases hr : rnF c p with
    | mk q1 o =>
      rw [hr] at h
      cases o with
      | none => cases h
      | some t =>
        dsimp only at h
        obtain ⟨a, b, e, a1, a2, b2, e2, et⟩ := rnF_val hr
        have hnew : ∀ j, j < i + 1 → tdk (td3 td (i * 3) t) j := by
          intro j hj
          by_cases ej : j = i
          · subst ej
            refine ⟨a, b, e, a1, a2, b2, e2, ?_, ?_, ?_⟩
            · unfold td3; rw [upd1 (by omega), upd1 (by omega), upd0, et]
            · unfold td3; rw [upd1 (by omega), upd0, et]
            · unfold td3; rw [upd0, et]
          · obtain ⟨x1, x2, x3, y1, y2, y3, y4, y5, y6, y7⟩ := htd j (by omega)
            exact ⟨x1, x2, x3, y1, y2, y3, y4, by rw [td3_lo (by omega)]; exact y5, by rw [td3_lo (by omega)]; exact y6, by rw [td3_lo (by omega)]; exact y7⟩
        split at h
        · cases h
          exact ⟨by omega, by omega, hnew⟩
        · split at h
          · cases h
          · split at h
            · exact ih (i + 1) _ _ _ _ _ (by omega) hnew h
            · cases h
theorem sok_tide {k : Nat} {td : Nat → Int32} (h : sok s) (h1 : 1 ≤ k) (h2 : k ≤ 3) (h3 : ∀ j, j < k → tdk td j) : sok (sTd s k td) := by
  obtain ⟨b1, b2, b3, b4, b5, b6, b7⟩ := h
  exact ⟨b1, b2, b3, h1, h2, h3, b7⟩
theorem tide_cases : fTide s tx = ((fTide s tx).1, s) ∨ ∃ k td, 1 ≤ k ∧ k ≤ 3 ∧ (∀ j, j < k → tdk td j) ∧ (fTide s tx).2 = sTd s k td := by
  unfold fTide
  cases h : tdF (txc tx 80) 3 0 0 (fun _ => 0) with
  | mk q o =>
    cases o with
    | none => exact Or.inl rfl
    | some kt =>
      obtain ⟨k, td⟩ := kt
      obtain ⟨a, b, c⟩ := tdF_val 3 0 0 _ _ _ _ (by omega) (fun j hj => absurd hj (by omega)) h
      exact Or.inr ⟨k, td, a, b, c, rfl⟩
theorem flats_ok {D : DFT} (hs : sok s) (hm : mok s B m) (hk : dok s m D) : sok (sD s D) ∧ mok (sD s D) B D.e := by
  obtain ⟨b1, b2, b3, b4, b5, b6, b7⟩ := hs
  obtain ⟨k1, k2, k3, k4, k5, k6, k7, k8, k9⟩ := hk
  obtain ⟨⟨t, ht, et, hc⟩, he⟩ := hm
  refine ⟨⟨k2, k4, b3, b4, b5, b6, b7⟩, ⟨t, ht, (k8 64 (Or.inr (by omega))).trans et, fun c hc5 => ?_⟩, fun w hw => ?_⟩
  · have hc5' : c < s.nc := hc5
    obtain ⟨c1, c2⟩ := hc c hc5'
    have e8 : ∀ j, j < 8 → D.e (c * 8 + j) = m (c * 8 + j) := fun j hj => k8 _ (Or.inl (by omega))
    have e0 : D.e (c * 8) = m (c * 8) := e8 0 (by omega)
    unfold cok
    rw [e0, e8 1 (by omega), e8 2 (by omega), e8 3 (by omega), e8 4 (by omega), e8 5 (by omega), e8 6 (by omega), e8 7 (by omega)]
    refine ⟨c1, ?_⟩
    rcases c2 with ⟨p, hp, c2⟩ | ⟨d1, ⟨w, hw, d2, d3⟩, d4⟩
    · exact Or.inl ⟨p, Nat.lt_of_lt_of_le hp k1, c2⟩
    · refine Or.inr ⟨d1, ⟨w, Nat.lt_of_lt_of_le hw k3, d2, ?_⟩, d4⟩
      rw [k8 _ (Or.inl (by omega)), k8 _ (Or.inl (by omega))]
      exact d3
  · have hw2 : w < D.nr := hw
    rcases Nat.lt_or_ge w s.nr with z | z
    · obtain ⟨a, b, ha, hb, hab, ea, eb⟩ := he w z
      exact ⟨a, b, Nat.lt_of_lt_of_le ha k1, Nat.lt_of_lt_of_le hb k1, hab, (k8 _ (Or.inl (by omega))).trans ea, (k8 _ (Or.inl (by omega))).trans eb⟩
    · exact k9 w z hw2
theorem fFlats_cases (hT : tok tx) (hs : sok s) : fFlats s m us kp tx = ((fFlats s m us kp tx).1, s, m, us, kp) ∨ ∃ v D, dok s m D ∧ fFlats s m us kp tx = (v, sD s D, D.e, [], fun _ => none) := by
  by_cases h0 : tx.1 = 0
  · rw [fFlats_0 h0]; exact Or.inl rfl
  cases h : lnsF (txc tx 76) 81 0 1 (dft0 s m) with
  | mk q o =>
    cases o with
    | none => rw [fFlats_f h0 h]; exact Or.inl rfl
    | some kD =>
      obtain ⟨k, D⟩ := kD
      by_cases hq : q = tx.1
      · rw [fFlats_t h0 h hq]
        exact Or.inr ⟨_, D, (lnsF_k (f := tx.2) (c8_tx hT 76) 81 0 1 (dft0 s m) q k D (dok_0 hs) h).2, rfl⟩
      · rw [fFlats_g h0 h hq]; exact Or.inl rfl
theorem casF_ok {c : Nat → Int32} (hc : c8 c) (hnp : s.np ≤ 8) : ∀ (F p k : Nat) (D : CFT) (q k' : Nat) (D' : CFT), dkc s m D → casF c s.np F p k D = (q, some (k', D')) → dkc s m D' := by
  intro F
  induction F with
  | zero => intro p k D q k' D' _ h; cases h
  | succ F ih =>
    intro p k D q k' D' hk h
    rw [casF_s] at h
    cases hl : caF c s.np p D with
    | mk q1 o =>
      rw [hl] at h
      cases o with
      | none => cases h
      | some D1 =>
        dsimp only at h
        obtain ⟨hk1, -⟩ := caF_ok hc hnp hk hl
        split at h
        · exact ih _ _ _ _ _ _ hk1 h
        · split at h
          · cases h; exact hk1
          · cases h
theorem carts_ok {D : CFT} (hs : sok s) (hm : mok s B m) (hk : dkc s m D) : sok (sNc s D.1) ∧ mok (sNc s D.1) B D.2 := by
  obtain ⟨b1, b2, b3, b4, b5, b6, b7⟩ := hs
  obtain ⟨k1, k2, k3, k4⟩ := hk
  obtain ⟨⟨t, ht, et, hc⟩, he⟩ := hm
  refine ⟨⟨b1, b2, k2, b4, b5, b6, b7⟩, ⟨t, ht, (k3 64 (Or.inr (by omega))).trans et, fun c hc5 => ?_⟩, fun w hw => ?_⟩
  · have hc5' : c < D.1 := hc5
    rcases Nat.lt_or_ge c s.nc with z | z
    · obtain ⟨c1, c2⟩ := hc c z
      have e8 : ∀ j, j < 8 → D.2 (c * 8 + j) = m (c * 8 + j) := fun j hj => k3 _ (Or.inl (by omega))
      have e0 : D.2 (c * 8) = m (c * 8) := e8 0 (by omega)
      unfold cok
      rw [e0, e8 1 (by omega), e8 2 (by omega), e8 3 (by omega), e8 4 (by omega), e8 5 (by omega), e8 6 (by omega), e8 7 (by omega)]
      refine ⟨c1, ?_⟩
      rcases c2 with c2 | ⟨d1, ⟨w, hw, d2, d3⟩, d4⟩
      · exact Or.inl c2
      · refine Or.inr ⟨d1, ⟨w, hw, d2, ?_⟩, d4⟩
        rw [k3 _ (Or.inr (by omega)), k3 _ (Or.inr (by omega))]
        exact d3
    · obtain ⟨x, l, h, a1, a2, a3, a4⟩ := k4 c z hc5'
      have e0 : D.2 (c * 8) = v8 (nI x) (nI l) h 0 := a4 0 (by omega)
      unfold cok
      rw [e0, a4 1 (by omega), a4 2 (by omega), a4 3 (by omega), a4 4 (by omega), a4 5 (by omega), a4 6 (by omega), a4 7 (by omega)]
      exact ⟨⟨a3, l, a2, rfl⟩, Or.inl ⟨x, a1, rfl, rfl, rfl, rfl, rfl, rfl⟩⟩
  · obtain ⟨a, b, ha, hb, hab, ea, eb⟩ := he w hw
    exact ⟨a, b, ha, hb, hab, (k3 _ (Or.inr (by omega))).trans ea, (k3 _ (Or.inr (by omega))).trans eb⟩
theorem fCarts_cases (hT : tok tx) (hs : sok s) : fCarts s m us kp tx = ((fCarts s m us kp tx).1, s, m, us, kp) ∨ ∃ v D, dkc s m D ∧ fCarts s m us kp tx = (v, sNc s D.1, D.2, [], fun _ => none) := by
  by_cases h0 : tx.1 = 0
  · rw [fCarts_0 h0]; exact Or.inl rfl
  cases h : casF (txc tx 40) s.np 81 0 1 (s.nc, m) with
  | mk q o =>
    cases o with
    | none => rw [fCarts_f h0 h]; exact Or.inl rfl
    | some kD =>
      obtain ⟨k, D⟩ := kD
      by_cases hq : q = tx.1
      · rw [fCarts_t h0 h hq]
        exact Or.inr ⟨_, D, casF_ok (c8_tx hT 40) hs.1 81 0 1 (s.nc, m) q k D (dkc_0 hs) h, rfl⟩
      · rw [fCarts_g h0 h hq]; exact Or.inl rfl
theorem actsF_ok {f : Nat → Int32} {l : Nat} (hc : c8 (ch f l)) (hl : l ≤ 60) : ∀ (F i p : Nat) (A : Nat → T3) (q k : Nat) (A' : Nat → T3), (∀ j, j < i → tok3 (A j)) → p ≤ l → 2 * i ≤ p → actsF (ch f l) F i p A = (q, some (k, A')) → (∀ j, j < k → tok3 (A' j)) ∧ k ≤ 60 := by
  intro F
  induction F with
  | zero => intro i p A q k A' _ _ _ h; cases h
  | succ F ih =>
    intro i p A q k A' hA hp hip h
    rw [actsF_s] at h
    cases hr : actF (ch f l) p with
    | mk q1 o =>
      rw [hr] at h
      cases o with
      | none => cases h
      | some t =>
        dsimp only at h
        obtain ⟨q1l, q2, q3, q4⟩ := actF_all hc hp hr
        have q5 := q3 (by simp)
        have hA' : ∀ j, j < i + 1 → tok3 (updT A i t j) := fun j hj => by
          by_cases e : j = i
          · subst e; rw [updT_0]; exact q4 t rfl
          · rw [updT_1 e]; exact hA j (by omega)
        split at h
        · rename_i y
          have hlt := ch_in (f := f) (l := l) (p := q1) (by rw [y]; decide)
          exact ih _ _ _ _ _ _ hA' (by omega) (by omega) h
        · split at h
          · cases h
            exact ⟨hA', by omega⟩
          · cases h
theorem dRun_ok {A : Nat → T3} (hk : sok s) : ∀ (F i : Nat) (m : MO) (cm C : Nat), (∀ j, j < i + F → tok3 (A j)) → mok s C m → mok s (C + 99 * F) (dRun s A F i m cm).2.1 := by
  intro F
  induction F with
  | zero => intro i m cm C _ h; exact h
  | succ F ih =>
    intro i m cm C hA h
    rw [dRun_s]
    split
    · exact (ih (i + 1) _ _ (C + 99) (fun j hj => hA j (by omega)) (dAct_ok hk h (hA i (by omega)))).mono (by omega)
    · exact h.mono (by omega)
theorem fDay_ok (hk : sok s) (hm : mok s B m) (hT : tok tx) (hr : row.length ≤ 16) : mok s (B + 6000) (fDay s m us row tx).2.1 ∧ ((fDay s m us row tx).2.2.1 = us ∨ (fDay s m us row tx).2.2.1 = (m :: us).take 12) ∧ (fDay s m us row tx).2.2.2.length ≤ 16 := by
  have no : mok s (B + 6000) m ∧ (us = us ∨ us = (m :: us).take 12) ∧ row.length ≤ 16 := ⟨hm.mono (by omega), Or.inl rfl, hr⟩
  cases h : dRd tx with
  | mk q o =>
    cases o with
    | none => rw [fDay_f h]; exact no
    | some kA =>
      obtain ⟨k, A⟩ := kA
      by_cases hq : q = tx.1
      · rw [fDay_t h hq]
        have hA : (∀ j, j < k → tok3 (A j)) ∧ k ≤ 60 := by
          unfold dRd at h
          split at h
          · cases h
            exact ⟨fun j hj => absurd hj (by omega), by omega⟩
          · exact actsF_ok (f := tx.2) (l := min tx.1 60) (c8_tx hT 60) (by omega) 61 0 0 _ q k A (fun j hj => absurd hj (by omega)) (by omega) (by omega) h
        refine ⟨(dRun_ok hk k 0 m 0 B (fun j hj => hA.1 j (by omega)) hm).mono (by have := hA.2; omega), ?_, ?_⟩
        · unfold dOut
          dsimp only
          split
          · exact Or.inl rfl
          · exact Or.inr rfl
        · unfold dOut
          simp
      · rw [fDay_g h hq]; exact no
end
