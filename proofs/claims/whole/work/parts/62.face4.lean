/-! THE FACE: sheet, count, level -/
def ent (kind v : Int32) : Int32 := if kind = 0 then v.toInt8.toInt32 else if kind = 1 then v.toInt16.toInt32 else v
def shV (f st : Int32) : Nat → Int32
  | 0 => f
  | k + 1 => shV f st k + st
def shH (kind n f st : Int32) (k : Nat) : Int32 := if kind = 3 ∨ n ≤ nI k then 0 else rt_max 0 (rt_min 99 (ent kind (shV f st k)))
def sumI (h : Nat → Int32) : Nat → Int32
  | 0 => 0
  | k + 1 => sumI h k + h k
def sRh (s : SV) (h : Nat → Int32) : SV := mkS s.np s.nr s.nc s.nd s.td s.ph s.st h s.RV s.pat
def fSheet (s : SV) (kind n f st : Int32) : Int32 × SV := if inb kind 4 = true ∧ n ≤ 12 then (if kind = 3 then (-3, sRh s (shH kind n f st)) else if n < 0 then (-2, s) else (sumI (shH kind n f st) s.nr, sRh s (shH kind n f st))) else (-1, s)
section
variable {G : rt_G} {d : Nat} {Q : rt_Q} {I : rt_I} {L : rt_L} {r B : Nat} {s : SV} {m : MO} {us : List MO} {kp : Nat → Option MO} {mk : MKT} {row : List Int32} {tx : TXT}
theorem sX2_entryOf {k v : Int32} (hQ : Q (ent k v) I L r) : rt_Call G d kX2_entryOf [.int k, .int v] I L r Q := by
  unfold ent at hQ
  refine v_X2_entryOf _ _ _ _ _ ⟨fun z => ⟨fun z2 => ?_, fun z2 => ?_⟩, fun z => ?_⟩
  · rw [if_neg z, if_neg z2] at hQ; exact hQ
  · rw [if_neg z, if_pos z2] at hQ; exact hQ
  · rw [if_pos z] at hQ; exact hQ
theorem sX2_tellHeights {kind n f st : Int32} {h : Nat → Int32} (hS : XZ s I) (hk : sok s) (hh : ∀ k, k < s.nr → (n ≤ nI k → h k = 0) ∧ (¬ n ≤ nI k → h k = rt_max 0 (rt_min 99 (ent kind (shV f st k)))))
    (hQ : ∀ M, Fr M I [15] → AG s.nr (M 15) h → Q (sumI h s.nr) M L r) : rt_Call G (d + 1) kX2_tellHeights [.ref 12, .int kind, .int n, .int f, .int st] I L r Q := by
  have h12 := hk.2.1
  refine v_X2_tellHeights _ _ _ _ _ _ _ (rt_loop (P := fun k => ∀ M, Fr M I [15] → AG k (M 15) h → rt_AW G (d + 1) kX2_tellHeights Q 9 [some (.ref 12), some (.int kind), some (.int n), none, some (.int st), some (.int (sumI h k)), some (.int (shV f st k)), some (.int (nI k))] [] M L r) s.nr ?_ ?_ I (Fr.refl _ _) (fun j hj => absurd hj (Nat.not_lt_zero _)))
  · intro M hF hA
    exact v_X2_tellHeights_9 _ _ _ _ _ _ _ _ _ ⟨fun _ => hQ M hF hA, fun z => absurd (by rw [hF 12 (by decide), hS.2.1]; exact Int32.le_refl _) z⟩
  · intro k hkn ih M hF hA
    have e12 : M 12 2 = nI s.nr := by rw [hF 12 (by decide)]; exact hS.2.1
    have hv : vp_in (nI k) 12 := vp_nI rfl (by omega) (by omega)
    obtain ⟨a, b⟩ := hh k hkn
    have hA2 : AG (k + 1) (rt_u M 15 k (h k) 15) h := fun j hj => by
      rw [rt_u_eq]
      unfold upd
      split
      · rename_i e; rw [e]
      · exact hA j (by omega)
    have ih2 := ih _ (hF.u (c := 15) (j := k) (v := h k) (by decide)) hA2
    refine v_X2_tellHeights_9 _ _ _ _ _ _ _ _ _ ⟨fun z => absurd ((n_le e12 rfl (by omega) (by omega)).mp z) (by omega), fun _ => ⟨fun z => ⟨hv, hv, ?_⟩, fun z => sX2_entryOf ⟨hv, hv, ?_⟩⟩⟩
    · rw [cl (n := k) rfl (by omega), rt_u_at, nI_1]
      rw [show sumI h (k + 1) = sumI h k + h k from rfl, a z] at ih2
      exact ih2
    · rw [cl (n := k) rfl (by omega), rt_u_at, nI_1]
      rw [show sumI h (k + 1) = sumI h k + h k from rfl, b z] at ih2
      exact ih2
theorem XI.rh {h' : Nat → Int32} {M : rt_I} (h : XI s m us kp mk row tx I) (hF : Fr M I [15]) (hA : AG s.nr (M 15) h') : XI (sRh s h') m us kp mk row tx M := by
  obtain ⟨h1, h2, h3, h4, h5, h6, h7⟩ := h
  obtain ⟨a1, a2, a3, a4, a5, a6, a7, a8, a9, a10⟩ := h1
  have hg : ∀ c, c ≠ 15 → M c = I c := fun c hc => hF c (by simp [hc])
  refine ⟨⟨by rw [hg 12 (by omega)]; exact a1, by rw [hg 12 (by omega)]; exact a2, by rw [hg 16 (by omega)]; exact a3, by rw [hg 3 (by omega)]; exact a4, by rw [hg 4 (by omega)]; exact a5, by rw [hg 13 (by omega)]; exact a6, by rw [hg 14 (by omega)]; exact a7, hA, a9.fr (by rw [hg 6 (by omega)]) (hg 7 (by omega)), by rw [hg 20 (by omega)]; exact a10⟩, ?_, ?_, ?_, h5.fr (by rw [hg 38 (by omega)]) (hg 39 (by omega)) (hg 40 (by omega)), h6.fr (hg 42 (by omega)) (hg 43 (by omega)), h7.fr (by rw [hg 1 (by omega)]) (hg 2 (by omega))⟩
  · exact h2.fr (by rw [hg 16 (by omega)]) (hg 17 (by omega)) (hg 18 (by omega)) (hg 19 (by omega))
  · exact h3.fr (hg 21 (by omega)) (fun c a b => hg c (by omega))
  · exact h4.fr (hg 24 (by omega)) (fun c a b => hg c (by omega))
theorem inb4 {x : Int32} : inb x 4 = true ↔ (¬ x < 0 ∧ ¬ 3 < x) := (inbD (k := 3) (by omega)).symm
theorem fX_sheet {kind n f st : Int32} (h : XI s m us kp mk row tx I) (hk : sok s)
    (hQ : ∀ M, XI (fSheet s kind n f st).2 m us kp mk row tx M → (∀ c, 108 ≤ c → M c = I c) → Q (fSheet s kind n f st).1 M L r) : rt_Call G (d + 2) kX11_sheet [.ref 0, .int kind, .int n, .int f, .int st] I L r Q := by
  unfold fSheet at hQ
  have hno : ¬ (inb kind 4 = true ∧ n ≤ 12) → Q (-1) I L r := by
    intro z
    rw [if_neg z] at hQ
    exact hQ I h (fun _ _ => rfl)
  refine v_X11_sheet _ _ _ _ _ _ _ ⟨fun z => hno (fun q => (inb4.mp q.1).1 z), fun z => ⟨fun z2 => hno (fun q => (inb4.mp q.1).2 z2), fun z2 => ⟨fun z3 => ⟨fun z4 => ⟨fun z5 => ?_, fun z5 => ?_⟩, fun z4 => ?_⟩, fun z3 => hno (fun q => z3 q.2)⟩⟩⟩
  · rw [if_pos ⟨inb4.mpr ⟨z, z2⟩, z3⟩, if_neg z4, if_neg (Int32.not_lt.mpr z5)] at hQ
    refine sX2_tellHeights h.1 hk (fun k hk2 => ⟨fun q => ?_, fun q => ?_⟩) (fun M hF hA => hQ M (h.rh hF hA) (hF.hi (by decide)))
    · unfold shH; rw [if_pos (Or.inr q)]
    · unfold shH; rw [if_neg (fun y => y.elim z4 q)]
  · rw [if_pos ⟨inb4.mpr ⟨z, z2⟩, z3⟩, if_neg z4, if_pos (Int32.not_le.mp z5)] at hQ
    exact hQ I h (fun _ _ => rfl)
  · rw [if_pos ⟨inb4.mpr ⟨z, z2⟩, z3⟩, if_pos z4] at hQ
    refine sX2_tellHeights (h := shH kind n f st) h.1 hk (fun k hk2 => ⟨fun q => ?_, fun q => ?_⟩) (fun M hF hA => hQ M (h.rh hF hA) (hF.hi (by decide)))
    · unfold shH; rw [if_pos (Or.inl z4)]
    · have := hk.2.1
      exact absurd (nI_pos' (n := k) (by omega)) q
theorem MI.rh {h' : Nat → Int32} {M : rt_I} (h : MI B s m us kp mk row tx I) (hF : Fr M I [112]) (hA : AG s.nr (M 112) h') : MI B (sRh s h') m us kp mk row tx M := by
  obtain ⟨h1, h2, h3, h4, h5, h6, h7⟩ := h
  obtain ⟨a1, a2, a3, a4, a5, a6, a7, a8, a9, a10, a11⟩ := h1
  have hg : ∀ c, c ≠ 112 → M c = I c := fun c hc => hF c (by simp [hc])
  have g8 := hg 108 (by omega)
  refine ⟨⟨by rw [g8]; exact a1, by rw [g8]; exact a2, by rw [g8]; exact a3, by rw [g8]; exact a4, by rw [hg 113 (by omega)]; exact a5, by rw [hg 110 (by omega)]; exact a6, by rw [hg 111 (by omega)]; exact a7, hA, a9.fr (by rw [g8]) (hg 120 (by omega)), by rw [g8]; exact a10, by rw [g8]; exact a11⟩, ?_, ?_, ?_, h5.fr (by rw [g8]) (hg 129 (by omega)), h6.fr (by rw [g8]) (hg 115 (by omega)), h7.fr (by rw [g8]) (hg 114 (by omega))⟩
  · rw [hg 109 (by omega)]; exact h2
  · exact h3.fr (by rw [g8]) (hg 122 (by omega))
  · exact h4.fr (by rw [g8]) (hg 132 (by omega)) (hg 133 (by omega)) (hg 134 (by omega))
theorem sX12_sheet_l {kind n f st : Int32} (hS : MZ s I) (hk : sok s) (hQ : ∀ M, Fr M I [112] → AG s.nr (M 112) (shH kind n f st) → (kind = 3 → Q (-3) M L r) ∧ (¬ kind = 3 → Q (sumI (shH kind n f st) s.nr) M L r)) : rt_AW G (d + 1) kX12_sheet Q 43 [some (.ref 108), some (.int kind), some (.int n), none, some (.int st), some (.int 0), some (.int f), some (.int 0), none] [] I L r := by
  have h12 := hk.2.1
  refine rt_loop (P := fun k => ∀ M, Fr M I [112] → AG k (M 112) (shH kind n f st) → rt_AW G (d + 1) kX12_sheet Q 43 [some (.ref 108), some (.int kind), some (.int n), none, some (.int st), some (.int (sumI (shH kind n f st) k)), some (.int (shV f st k)), some (.int (nI k)), none] [] M L r) s.nr ?_ ?_ I (Fr.refl _ _) (fun j hj => absurd hj (Nat.not_lt_zero _))
  · intro M hF hA
    obtain ⟨q1, q2⟩ := hQ M hF hA
    exact v_X12_sheet_43 _ _ _ _ _ _ _ _ _ ⟨fun _ => ⟨q2, q1⟩, fun z => absurd (by rw [hF 108 (by decide), hS.2.1]; exact Int32.le_refl _) z⟩
  · intro k hkn ih M hF hA
    have e12 : M 108 3 = nI s.nr := by rw [hF 108 (by decide)]; exact hS.2.1
    have hv : vp_in (nI k) 12 := vp_nI rfl (by omega) (by omega)
    have hA2 : AG (k + 1) (rt_u M 112 k (shH kind n f st k) 112) (shH kind n f st) := fun j hj => by
      rw [rt_u_eq]
      unfold upd
      split
      · rename_i e; rw [e]
      · exact hA j (by omega)
    have ih2 := ih _ (hF.u (c := 112) (j := k) (v := shH kind n f st k) (by decide)) hA2
    rw [show sumI (shH kind n f st) (k + 1) = sumI (shH kind n f st) k + shH kind n f st k from rfl] at ih2
    have hz : kind = 3 ∨ n ≤ nI k → shH kind n f st k = 0 := fun q => if_pos q
    have hn : ¬ kind = 3 → ¬ n ≤ nI k → shH kind n f st k = rt_max 0 (rt_min 99 (ent kind (shV f st k))) := fun q q2 => if_neg (fun y => y.elim q q2)
    have e0 : kind = 0 → ent kind (shV f st k) = (shV f st k).toInt8.toInt32 := fun q => if_pos q
    have e1 : ¬ kind = 0 → kind = 1 → ent kind (shV f st k) = (shV f st k).toInt16.toInt32 := fun q q2 => by unfold ent; rw [if_neg q, if_pos q2]
    have e2 : ¬ kind = 0 → ¬ kind = 1 → ent kind (shV f st k) = shV f st k := fun q q2 => by unfold ent; rw [if_neg q, if_neg q2]
    refine v_X12_sheet_43 _ _ _ _ _ _ _ _ _ ⟨fun z => absurd ((n_le e12 rfl (by omega) (by omega)).mp z) (by omega), fun _ => ?_⟩
    rw [cl (n := k) rfl (by omega)]
    simp only [rt_u_at, nI_1]
    refine ⟨fun z0 => ⟨fun z1 => ⟨fun z3 => ⟨hv, hv, ?_⟩, fun z3 => ⟨fun z => ⟨hv, hv, ?_⟩, fun z => ⟨hv, hv, ?_⟩⟩⟩, fun z1 => ⟨fun z3 => ⟨hv, hv, ?_⟩, fun z3 => ⟨fun z => ⟨hv, hv, ?_⟩, fun z => ⟨hv, hv, ?_⟩⟩⟩⟩, fun z0 => ⟨fun z3 => ⟨hv, hv, ?_⟩, fun z3 => ⟨fun z => ⟨hv, hv, ?_⟩, fun z => ⟨hv, hv, ?_⟩⟩⟩⟩
    · rw [hz (Or.inl z3)] at ih2; exact ih2
    · rw [hn z3 (Int32.not_le.mpr z), e2 z0 z1] at ih2; exact ih2
    · rw [hz (Or.inr (Int32.not_lt.mp z))] at ih2; exact ih2
    · rw [hz (Or.inl z3)] at ih2; exact ih2
    · rw [hn z3 (Int32.not_le.mpr z), e1 z0 z1] at ih2; exact ih2
    · rw [hz (Or.inr (Int32.not_lt.mp z))] at ih2; exact ih2
    · rw [hz (Or.inl z3)] at ih2; exact ih2
    · rw [hn z3 (Int32.not_le.mpr z), e0 z0] at ih2; exact ih2
    · rw [hz (Or.inr (Int32.not_lt.mp z))] at ih2; exact ih2
theorem fM_sheet {kind n f st : Int32} (h : MI B s m us kp mk row tx I) (hk : sok s)
    (hQ : ∀ M r', MI B (fSheet s kind n f st).2 m us kp mk row tx M → Lo M I → M 108 14 = 0 → Q (fSheet s kind n f st).1 M L r') : rt_Call G (d + 2) kX12_sheet [.ref 108, .int kind, .int n, .int f, .int st] I L r Q := by
  unfold fSheet at hQ
  have h0 := h.t0
  have hLJ : Lo (rt_u I 108 14 0) I := Lo.of u14F (by decide)
  have hno : ¬ (inb kind 4 = true ∧ n ≤ 12) → Q (-1) (rt_u I 108 14 0) L r := by
    intro z
    rw [if_neg z] at hQ
    exact hQ _ _ h0 hLJ rt_u_at
  have fin : ∀ M, inb kind 4 = true → n ≤ 12 → (¬ kind = 3 → ¬ n < 0) → Fr M (rt_u I 108 14 0) [112] → AG s.nr (M 112) (shH kind n f st) → (kind = 3 → Q (-3) M L r) ∧ (¬ kind = 3 → Q (sumI (shH kind n f st) s.nr) M L r) := by
    intro M z1 z2 z3 hF hA
    have hl := (Lo.of hF (by decide)).trans hLJ
    have h14 : M 108 14 = 0 := by rw [hF 108 (by decide)]; exact rt_u_at
    rw [if_pos ⟨z1, z2⟩] at hQ
    refine ⟨fun q => ?_, fun q => ?_⟩
    · rw [if_pos q] at hQ; exact hQ M r (h0.rh hF hA) hl h14
    · rw [if_neg q, if_neg (z3 q)] at hQ; exact hQ M r (h0.rh hF hA) hl h14
  refine v_X12_sheet _ _ _ _ _ _ _ (sX12_in (fun z => ⟨fun q => absurd q (by decide), fun _ => ⟨fun z3 => ⟨fun z4 => ?_, fun z4 => ⟨fun z5 => ?_, fun z5 => ?_⟩⟩, fun z3 => hno (fun q => z3 q.2)⟩⟩) (fun z => ⟨fun _ => hno (fun q => z (inb4.mp q.1)), fun q => absurd rfl q⟩))
  · have h3 : kind = 3 := Int32.le_antisymm (Int32.not_lt.mp z.2) z4
    exact sX12_sheet_l h0.1 hk (fun M hF hA => fin M (inb4.mpr z) z3 (fun q => absurd h3 q) hF hA)
  · exact sX12_sheet_l h0.1 hk (fun M hF hA => fin M (inb4.mpr z) z3 (fun _ => Int32.not_lt.mpr z5) hF hA)
  · have h3 : ¬ kind = 3 := fun e => z4 (by rw [e]; exact Int32.le_refl _)
    rw [if_pos ⟨inb4.mpr z, z3⟩, if_neg h3, if_pos (Int32.not_le.mp z5)] at hQ
    exact hQ _ _ h0 hLJ rt_u_at
/-! count -/
theorem wX9_roadsThereAt {t : Int32} (hS : XZ s I) (hk : sok s) (hQ : Q (bts (fun w => s.th w t) s.nr) I L r) : rt_Call G (d + 2) kX9_roadsThereAt [.ref 20, .int t] I L r Q := by
  obtain ⟨b1, b2, b3, b4, b5, b6, b7⟩ := hk
  refine sX9_roadsThereAt hS.2.1 b2 hS.2.2.2.1 b5 (tdok_of b6 hS.2.2.2.2.1) ?_
  rw [bts_congr (b' := fun w => s.th w t) (fun w hw => thr_congr t hS.2.2.2.2.1 hS.2.2.2.2.2.2.2.1 hw)]
  exact hQ
def fCount (s : SV) (m : MO) (us : List MO) (mk : MKT) (row : List Int32) (tx : TXT) (x : Int32) : Int32 :=
  if x = 0 then nI s.np else if x = 1 then nI s.nr else if x = 2 then nI s.nc else if x = 3 then m 64 else if x = 4 then bts (fun w => s.th w (m 64)) s.nr else if x = 5 then bts (fun c => decide (m (c * 8 + 0) = -1)) s.nc else if x = 6 then bts (fun c => decide (m (c * 8 + 7) = 1)) s.nc else if x = 7 then s.pat else if x = 8 then nI s.nd else if x = 9 then nI mk.1 else if x = 10 then nI us.length else if x = 11 then nI row.length else if x = 12 then nI tx.1 else -1
theorem fC0 : fCount s m us mk row tx 0 = nI s.np := by
  unfold fCount
  rw [if_pos rfl]
theorem fC1 : fCount s m us mk row tx 1 = nI s.nr := by
  unfold fCount
  rw [if_neg (by decide), if_pos rfl]
theorem fC2 : fCount s m us mk row tx 2 = nI s.nc := by
  unfold fCount
  rw [if_neg (by decide), if_neg (by decide), if_pos rfl]
theorem fC3 : fCount s m us mk row tx 3 = m 64 := by
  unfold fCount
  rw [if_neg (by decide), if_neg (by decide), if_neg (by decide), if_pos rfl]
theorem fC4 : fCount s m us mk row tx 4 = bts (fun w => s.th w (m 64)) s.nr := by
  unfold fCount
  rw [if_neg (by decide), if_neg (by decide), if_neg (by decide), if_neg (by decide), if_pos rfl]
theorem fC5 : fCount s m us mk row tx 5 = bts (fun c => decide (m (c * 8 + 0) = -1)) s.nc := by
  unfold fCount
  rw [if_neg (by decide), if_neg (by decide), if_neg (by decide), if_neg (by decide), if_neg (by decide), if_pos rfl]
theorem fC6 : fCount s m us mk row tx 6 = bts (fun c => decide (m (c * 8 + 7) = 1)) s.nc := by
  unfold fCount
  rw [if_neg (by decide), if_neg (by decide), if_neg (by decide), if_neg (by decide), if_neg (by decide), if_neg (by decide), if_pos rfl]
theorem fC7 : fCount s m us mk row tx 7 = s.pat := by
  unfold fCount
  rw [if_neg (by decide), if_neg (by decide), if_neg (by decide), if_neg (by decide), if_neg (by decide), if_neg (by decide), if_neg (by decide), if_pos rfl]
theorem fC8 : fCount s m us mk row tx 8 = nI s.nd := by
  unfold fCount
  rw [if_neg (by decide), if_neg (by decide), if_neg (by decide), if_neg (by decide), if_neg (by decide), if_neg (by decide), if_neg (by decide), if_neg (by decide), if_pos rfl]
theorem fC9 : fCount s m us mk row tx 9 = nI mk.1 := by
  unfold fCount
  rw [if_neg (by decide), if_neg (by decide), if_neg (by decide), if_neg (by decide), if_neg (by decide), if_neg (by decide), if_neg (by decide), if_neg (by decide), if_neg (by decide), if_pos rfl]
theorem fC10 : fCount s m us mk row tx 10 = nI us.length := by
  unfold fCount
  rw [if_neg (by decide), if_neg (by decide), if_neg (by decide), if_neg (by decide), if_neg (by decide), if_neg (by decide), if_neg (by decide), if_neg (by decide), if_neg (by decide), if_neg (by decide), if_pos rfl]
theorem fC11 : fCount s m us mk row tx 11 = nI row.length := by
  unfold fCount
  rw [if_neg (by decide), if_neg (by decide), if_neg (by decide), if_neg (by decide), if_neg (by decide), if_neg (by decide), if_neg (by decide), if_neg (by decide), if_neg (by decide), if_neg (by decide), if_neg (by decide), if_pos rfl]
theorem fC12 : fCount s m us mk row tx 12 = nI tx.1 := by
  unfold fCount
  rw [if_neg (by decide), if_neg (by decide), if_neg (by decide), if_neg (by decide), if_neg (by decide), if_neg (by decide), if_neg (by decide), if_neg (by decide), if_neg (by decide), if_neg (by decide), if_neg (by decide), if_neg (by decide), if_pos rfl]
theorem fCn {x : Int32} (h : x.toInt < 0 ∨ 12 < x.toInt) : fCount s m us mk row tx x = -1 := by
  have hn : ∀ k : Int32, 0 ≤ k.toInt → k.toInt ≤ 12 → ¬ x = k := fun k h1 h2 e => by rw [e] at h; omega
  unfold fCount
  rw [if_neg (hn _ (by decide) (by decide)), if_neg (hn _ (by decide) (by decide)), if_neg (hn _ (by decide) (by decide)), if_neg (hn _ (by decide) (by decide)), if_neg (hn _ (by decide) (by decide)), if_neg (hn _ (by decide) (by decide)), if_neg (hn _ (by decide) (by decide)), if_neg (hn _ (by decide) (by decide)), if_neg (hn _ (by decide) (by decide)), if_neg (hn _ (by decide) (by decide)), if_neg (hn _ (by decide) (by decide)), if_neg (hn _ (by decide) (by decide)), if_neg (hn _ (by decide) (by decide))]
theorem fX_count {x : Int32} (h : XI s m us kp mk row tx I) (hk : sok s) (hQ : Q (fCount s m us mk row tx x) I L r) : rt_Call G (d + 3) kX11_count [.ref 0, .int x] I L r Q := by
  obtain ⟨h1, h2, h3, h4, h5, h6, h7⟩ := h
  obtain ⟨a1, a2, a3, a4, a5, a6, a7, a8, a9, a10⟩ := id h1
  have hus : I 21 5 = nI us.length := by
    obtain ⟨-, f, -, -, e5, -⟩ := h3
    exact e5
  refine v_X11_count _ _ _ _ ⟨fun z => ?_, fun z => ?_, fun z => ?_, fun z => ?_, fun z => ?_, fun z => ?_, fun z => ?_, fun z => ?_, fun z => ?_, fun z => ?_, fun z => ?_, fun z => ?_, fun z => ?_, fun z => ?_⟩
  · rw [fCn z] at hQ; exact hQ
  · rw [z, fC0] at hQ; rw [a1]; exact hQ
  · rw [z, fC1] at hQ; rw [a2]; exact hQ
  · rw [z, fC2] at hQ; rw [a3]; exact hQ
  · rw [z, fC3] at hQ; rw [h2.1]; exact hQ
  · rw [z, fC4] at hQ; refine wX9_roadsThereAt h1 hk ?_; rw [h2.1]; exact hQ
  · rw [z, fC5] at hQ; refine sX4_cartsWith (j := 0) a3 hk.2.2.1 (by omega) ?_; rw [bts_congr (b' := fun c => decide (m (c * 8 + 0) = -1)) (fun c hc => by rw [xm_c hk h2 hc (by omega)])]; exact hQ
  · rw [z, fC6] at hQ; refine sX4_cartsWith (j := 7) a3 hk.2.2.1 (by omega) ?_; rw [bts_congr (b' := fun c => decide (m (c * 8 + 7) = 1)) (fun c hc => by rw [xm_c hk h2 hc (by omega)])]; exact hQ
  · rw [z, fC7] at hQ; rw [a10]; exact hQ
  · rw [z, fC8] at hQ; rw [a4]; exact hQ
  · rw [z, fC9] at hQ; rw [h5.1]; exact hQ
  · rw [z, fC10] at hQ; rw [hus]; exact hQ
  · rw [z, fC11] at hQ; rw [h6.1]; exact hQ
  · rw [z, fC12] at hQ; rw [h7.1]; exact hQ
theorem fM_count {x : Int32} (h : MI B s m us kp mk row tx I) (hk : sok s) (hQ : ∀ M r', MI B s m us kp mk row tx M → Lo M I → M 108 14 = 0 → Q (fCount s m us mk row tx x) M L r') : rt_Call G (d + 3) kX12_count [.ref 108, .int x] I L r Q := by
  have h0 := h.t0
  obtain ⟨h1, h2, h3, h4, h5, h6, h7⟩ := id h0
  obtain ⟨a1, a2, a3, a4, a5, a6, a7, a8, a9, a10, a11⟩ := id h1
  have hQ' := hQ _ r h0 (Lo.of u14F (by decide)) rt_u_at
  refine v_X12_count _ _ _ _ ⟨fun z => ?_, fun z => ?_, fun z => ?_, fun z => ?_, fun z => ?_, fun z => ?_, fun z => ?_, fun z => ?_, fun z => ?_, fun z => ?_, fun z => ?_, fun z => ?_, fun z => ?_, fun z => ?_⟩
  · rw [fCn z] at hQ'; exact hQ'
  · rw [z, fC0] at hQ'; rw [show I 108 1 = rt_u I 108 14 0 108 1 from rfl, a1]; exact hQ'
  · rw [z, fC1] at hQ'; rw [show I 108 3 = rt_u I 108 14 0 108 3 from rfl, a2]; exact hQ'
  · rw [z, fC2] at hQ'; rw [show I 108 6 = rt_u I 108 14 0 108 6 from rfl, a3]; exact hQ'
  · rw [z, fC3] at hQ'; rw [show I 109 64 = rt_u I 108 14 0 109 64 from rfl, h2.1]; exact hQ'
  · rw [z, fC4] at hQ'
    refine rt_loop (P := fun k => rt_AW G (d + 3) kX12_count Q 101 [some (.ref 108), none, some (.int (bts (fun w => s.th w (m 64)) k)), some (.int (nI k))] [] (rt_u I 108 14 0) L r) s.nr ?_ ?_
    · exact v_X12_count_101 _ _ _ _ _ ⟨fun _ => hQ', fun z => absurd (by rw [a2]; exact Int32.le_refl _) z⟩
    · intro k hkn ih
      have := hk.2.1
      refine v_X12_count_101 _ _ _ _ _ ⟨fun z => absurd ((n_le a2 rfl (by omega) (by omega)).mp z) (by omega), fun _ => ?_⟩
      rw [h2.1]
      unfold bts at ih
      refine wX12_isThere h1 hk rfl hkn (fun q => ⟨fun y => absurd y (by decide), fun _ => ?_⟩) (fun q => ⟨fun _ => ?_, fun y => absurd rfl y⟩)
      · rw [if_pos q] at ih
        rw [nI_1]; exact ih
      · rw [if_neg (by rw [q]; decide)] at ih
        rw [nI_1, Int32.or_zero]; exact ih
  · rw [z, fC5] at hQ'; refine sX12_cartsAt (j := 0) rfl a3 hk.2.2.1 (by omega) ?_; rw [bts_congr (b' := fun c => decide (m (c * 8 + 0) = -1)) (fun c hc => by rw [mm_c h2 hc (by omega)])]; exact hQ'
  · rw [z, fC6] at hQ'; refine sX12_cartsAt (j := 7) rfl a3 hk.2.2.1 (by omega) ?_; rw [bts_congr (b' := fun c => decide (m (c * 8 + 7) = 1)) (fun c hc => by rw [mm_c h2 hc (by omega)])]; exact hQ'
  · rw [z, fC7] at hQ'; rw [show I 108 9 = rt_u I 108 14 0 108 9 from rfl, a10]; exact hQ'
  · rw [z, fC8] at hQ'; rw [show I 108 7 = rt_u I 108 14 0 108 7 from rfl, a4]; exact hQ'
  · rw [z, fC9] at hQ'; rw [show I 108 48 = rt_u I 108 14 0 108 48 from rfl, h5.1]; exact hQ'
  · rw [z, fC10] at hQ'; rw [show I 108 31 = rt_u I 108 14 0 108 31 from rfl, h3.2.1]; exact hQ'
  · rw [z, fC11] at hQ'; rw [show I 108 13 = rt_u I 108 14 0 108 13 from rfl, h6.1]; exact hQ'
  · rw [z, fC12] at hQ'; rw [show I 108 11 = rt_u I 108 14 0 108 11 from rfl, h7.1]; exact hQ'
/-! level -/
def cmp (a b : Int32) : Int32 := if b ≤ a then (if a = b then 0 else 1) else -1
theorem sJ6_compare {a b : Int32} (hQ : Q (cmp a b) I L r) : rt_Call G d kJ6_compare_7cf53 [.int a, .int b] I L r Q := by
  unfold cmp at hQ
  refine v_J6_compare_7cf53 _ _ _ _ _ ⟨fun z => ⟨fun z2 => ?_, fun z2 => ?_⟩, fun z => ?_⟩
  · rw [if_pos z, if_neg z2] at hQ; exact hQ
  · rw [if_pos z, if_pos z2] at hQ; exact hQ
  · rw [if_neg z] at hQ; exact hQ
def fLevel (s : SV) (m : MO) (row : List Int32) (x : Int32) : Int32 × List Int32 := if inb x 121 = true then (s.lv (m 64 + x), [cmp (s.lv (m 64 + x + 1)) (s.lv (m 64 + x))]) else (-1, row)
theorem fX_level {x : Int32} (h : XI s m us kp mk row tx I) (hk : sok s)
    (hQ : ∀ M, XI s m us kp mk (fLevel s m row x).2 tx M → (∀ c, 108 ≤ c → M c = I c) → Q (fLevel s m row x).1 M L r) : rt_Call G (d + 2) kX11_level [.ref 0, .int x] I L r Q := by
  unfold fLevel at hQ
  have hno : ¬ (¬ x < 0 ∧ x ≤ 120) → Q (-1) I L r := by
    intro z
    rw [if_neg (fun q => z ((inb100 (k := 120) (by omega)).mpr q))] at hQ
    exact hQ I h (fun _ _ => rfl)
  refine v_X11_level _ _ _ _ ⟨fun z => hno (fun q => q.1 z), fun z => ⟨fun z2 => ?_, fun z2 => hno (fun q => z2 q.2)⟩⟩
  rw [if_pos ((inb100 (k := 120) (by omega)).mp ⟨z, z2⟩)] at hQ
  refine wX8_heightAt h.1 hk ?_
  rw [h.2.1.1]
  refine wX5_clear (fun M hF hR => ?_)
  have h2 := h.rw (hF.mono (by decide)) hR
  refine wX8_heightAt h2.1 hk ?_
  rw [h2.2.1.1]
  refine sJ6_compare (wX5_add hR (by simp) (fun M2 hF2 hR2 => ?_))
  have hF' : Fr M2 I [42, 43] := hF2.trans (hF.mono (by decide))
  exact hQ M2 (h.rw hF' hR2) (hF'.hi (by decide))
theorem wX12_levelIn {t : Int32} (hS : MZ s I) (hk : sok s) (hM : MMo s m (I 109)) (hQ : Q (s.lv (m 64 + t)) I L r) : rt_Call G (d + 2) kX12_levelIn [.ref 108, .int t] I L r Q := by
  refine v_X12_levelIn _ _ _ _ ?_
  rw [hM.1]
  exact wX12_levelAt hS hk hQ
theorem MI.c13 (h : MI B s m us kp mk row tx I) : MI B s m us kp mk [] tx (rt_u I 108 13 0) := h.rw ((Fr.refl _ _).u (by decide)) ((F8.refl _ _).u (fun _ => by decide)) MRw.clear
theorem c13L : Lo (rt_u I 108 13 0) I := Lo.of (cs := [108]) ((Fr.refl _ _).u (by decide)) (by decide)
/-- the model tells one number more -/
theorem gM_tell {v : Int32} (h : MI B s m us kp mk row tx I) (hl : row.length < 16) (hQ : ∀ M, MI B s m us kp mk (row ++ [v]) tx M → Lo M I → (∀ j, j ≠ 13 → M 108 j = I 108 j) → Q 0 M L r) : rt_Call G d kX12_tell [.ref 108, .int v] I L r Q :=
  wX12_tell h.2.2.2.2.2.1 hl (fun M hF h8 hR => hQ M (h.rw hF h8 hR) (Lo.of hF (by decide)) (fun j hj => h8 j (by simp [hj])))
theorem fM_level {x : Int32} (h : MI B s m us kp mk row tx I) (hk : sok s)
    (hQ : ∀ M r', MI B s m us kp mk (fLevel s m row x).2 tx M → Lo M I → M 108 14 = 0 → Q (fLevel s m row x).1 M L r') : rt_Call G (d + 3) kX12_level [.ref 108, .int x] I L r Q := by
  unfold fLevel at hQ
  have h0 := h.t0
  have hLJ : Lo (rt_u I 108 14 0) I := Lo.of u14F (by decide)
  refine v_X12_level _ _ _ _ (sX12_isLook (fun z => ⟨fun _ => ?_, fun y => absurd y (by decide)⟩) (fun z => ⟨fun y => absurd rfl y, fun _ => ?_⟩))
  · rw [if_pos ((inbD (k := 120) (by omega)).mp z)] at hQ
    have h1 := h0.c13
    refine wX12_levelIn h1.1 hk h1.2.1 (wX12_levelIn h1.1 hk h1.2.1 (sJ6_compare (gM_tell h1 (by simp) (fun M h2 hl h8 => wX12_levelIn h2.1 hk h2.2.1 ?_))))
    rw [← Int32.add_assoc] at h2
    refine hQ M _ h2 (hl.trans (c13L.trans hLJ)) ?_
    rw [h8 14 (by decide), rt_u1 (by decide), rt_u_at]
  · rw [if_neg (fun q => z ((inbD (k := 120) (by omega)).mpr q))] at hQ
    exact hQ _ _ h0 hLJ rt_u_at
end
