/-! THE FACE: table, comes, ebb, slack -/
abbrev T6 : Type := Int32 × Int32 × Int32 × Int32 × Int32 × Int32
def tht (s : SV) (m : MO) (w k : Nat) : Bool := s.th w (m 64 + nI k)
def tbS (th : Bool) (k : Int32) (q : T6) : T6 :=
  if th = true then
    (if q.1 = -1 then k else q.1, k, q.2.2.1 + 1, if q.2.2.2.2.2 + 1 ≤ q.2.2.2.1 then q.2.2.2.1 else q.2.2.2.2.2 + 1, if q.2.2.2.2.2 + 1 ≤ q.2.2.2.1 then q.2.2.2.2.1 else (k - (q.2.2.2.2.2 + 1)) + 1, q.2.2.2.2.2 + 1)
  else (q.1, q.2.1, q.2.2.1, q.2.2.2.1, q.2.2.2.2.1, 0)
def tbF (th : Nat → Bool) : Nat → T6
  | 0 => (-1, -1, 0, 0, -1, 0)
  | k + 1 => tbS (th k) (nI k) (tbF th k)
def tbRow (q : T6) : List Int32 := [q.1, q.2.1, q.2.2.2.1, q.2.2.2.2.1]
def fTable (s : SV) (m : MO) (row : List Int32) (x y : Int32) : Int32 × List Int32 :=
  if inb x s.nr = true ∧ (¬ y < 1 ∧ y ≤ 120) then ((tbF (tht s m (cc x)) (cc y)).2.2.1, tbRow (tbF (tht s m (cc x)) (cc y))) else (-1, row)
theorem r120 {y : Int32} (h : ¬ y < 1 ∧ y ≤ 120) : ∃ n, 1 ≤ n ∧ n ≤ 120 ∧ y = nI n := by
  have h0 : ¬ y < 0 := fun z => h.1 (Int32.lt_trans z (by decide))
  obtain ⟨n, hn, rfl⟩ := nI_of h0
  have h1 := mt (n_lt (a := n) (b := 1) rfl rfl hn (by omega)).mpr h.1
  have h2 := (n_le (a := n) (b := 120) rfl rfl hn (by omega)).mp h.2
  exact ⟨n, by omega, h2, rfl⟩
/-- from k on the first at which th holds, f of them looked at -/
def fstF (th : Nat → Bool) : Nat → Nat → Nat
  | 0, k => k
  | f + 1, k => if th k = true then k else fstF th f (k + 1)
theorem fstF_le (th : Nat → Bool) : ∀ f k, k ≤ fstF th f k ∧ fstF th f k ≤ k + f
  | 0, k => ⟨Nat.le_refl _, Nat.le_refl _⟩
  | f + 1, k => by
    have := fstF_le th f (k + 1)
    unfold fstF
    split <;> omega
def runF (th : Nat → Bool) : Nat → Nat → Nat
  | 0, k => k
  | f + 1, k => if th k = true then runF th f (k + 1) else k
theorem runF_le (th : Nat → Bool) : ∀ f k, runF th f k ≤ k + f
  | 0, k => Nat.le_refl _
  | f + 1, k => by
    have := runF_le th f (k + 1)
    unfold runF
    split <;> omega
def fComes (s : SV) (m : MO) (row : List Int32) (x : Int32) : Int32 × List Int32 :=
  if inb x s.nr = true then
    if fstF (tht s m (cc x)) 121 0 ≤ 120 then (nI (fstF (tht s m (cc x)) 121 0), [nI (runF (fun k => tht s m (cc x) (fstF (tht s m (cc x)) 121 0 + k)) 120 0)])
    else (-2, row)
  else (-1, row)
def lvt (s : SV) (m : MO) (k : Nat) : Int32 := s.lv (m 64 + nI k)
/-- the highest, the lowest: when -/
def ebF (s : SV) (m : MO) : Nat → Nat × Nat
  | 0 => (0, 0)
  | k + 1 => (if lvt s m (k + 1) ≤ lvt s m (ebF s m k).1 then (ebF s m k).1 else k + 1, if lvt s m (ebF s m k).2 ≤ lvt s m (k + 1) then (ebF s m k).2 else k + 1)
theorem ebF_le (s : SV) (m : MO) : ∀ k, (ebF s m k).1 ≤ k ∧ (ebF s m k).2 ≤ k
  | 0 => ⟨Nat.le_refl _, Nat.le_refl _⟩
  | k + 1 => by
    have := ebF_le s m k
    unfold ebF
    dsimp only
    constructor <;> split <;> omega
def ebRow (s : SV) (m : MO) : List Int32 := [nI (ebF s m 120).1, lvt s m (ebF s m 120).2, nI (ebF s m 120).2]
def slF (s : SV) (m : MO) : Nat → Int32 × Int32
  | 0 => (0, -1)
  | k + 1 => if lvt s m (k + 1) = lvt s m k then ((slF s m k).1 + 1, if (slF s m k).2 = -1 then nI k else (slF s m k).2) else slF s m k
theorem slF_2 (s : SV) (m : MO) : ∀ k, (slF s m k).2 = -1 ∨ ∃ j, j < k ∧ (slF s m k).2 = nI j
  | 0 => Or.inl rfl
  | k + 1 => by
    have ih := slF_2 s m k
    have h2 : (slF s m k).2 = -1 ∨ ∃ j, j < k + 1 ∧ (slF s m k).2 = nI j := ih.imp id (fun ⟨j, hj, e⟩ => ⟨j, by omega, e⟩)
    unfold slF
    split
    · dsimp only
      split
      · exact Or.inr ⟨k, by omega, rfl⟩
      · exact h2
    · exact h2
def slRow (s : SV) (m : MO) : List Int32 := [(slF s m 120).2, if (slF s m 120).2 = -1 then 0 else nI (cb (fun w => s.th w (m 64 + (slF s m 120).2)) s.nr)]
section
variable {G : rt_G} {d : Nat} {Q : rt_Q} {I : rt_I} {L : rt_L} {r B : Nat} {s : SV} {m : MO} {us : List MO} {kp : Nat → Option MO} {mk : MKT} {row : List Int32} {tx : TXT}
theorem gX_add {v : Int32} (h : XI s m us kp mk row tx I) (hl : row.length < 16) (hQ : ∀ M, XI s m us kp mk (row ++ [v]) tx M → Fr M I [42, 43] → Q 0 M L r) : rt_Call G d kX5_add [.ref 42, .int v] I L r Q :=
  wX5_add h.2.2.2.2.2.1 hl (fun M hF hR => hQ M (h.rw hF hR) hF)
theorem gX_clear (h : XI s m us kp mk row tx I) (hQ : ∀ M, XI s m us kp mk [] tx M → Fr M I [42, 43] → Q 0 M L r) : rt_Call G d kX5_clear [.ref 42] I L r Q :=
  wX5_clear (fun M hF hR => hQ M (h.rw (hF.mono (by decide)) hR) (hF.mono (by decide)))
theorem fX_table {x y : Int32} (h : XI s m us kp mk row tx I) (hk : sok s)
    (hQ : ∀ M, XI s m us kp mk (fTable s m row x y).2 tx M → (∀ c, 108 ≤ c → M c = I c) → Q (fTable s m row x y).1 M L r) : rt_Call G (d + 3) kX11_table [.ref 0, .int x, .int y] I L r Q := by
  have h12 := hk.2.1
  unfold fTable at hQ
  have hno : ¬ (inb x s.nr = true ∧ (¬ y < 1 ∧ y ≤ 120)) → Q (-1) I L r := by
    intro z
    rw [if_neg z] at hQ
    exact hQ I h (fun _ _ => rfl)
  refine v_X11_table _ _ _ _ _ (sX2_hasRoad h.1.2.1 (fun z => ⟨fun q => absurd q (by decide), fun _ => ⟨fun z2 => hno (fun q => q.2.1 z2), fun z2 => ⟨fun z3 => ?_, fun z3 => hno (fun q => z3 q.2.2)⟩⟩⟩) (fun z => ⟨fun _ => hno (fun q => z (inb_iff.mp q.1)), fun q => absurd rfl q⟩))
  rw [if_pos ⟨inb_iff.mpr z, z2, z3⟩] at hQ
  obtain ⟨w, hw, rfl⟩ := (inr_iff (by omega)).mp z
  obtain ⟨n, hn1, hn, rfl⟩ := r120 ⟨z2, z3⟩
  rw [cc_nI (by omega), cc_nI (by omega)] at hQ
  refine rt_loop (P := fun k => rt_AW G (d + 3) kX11_table Q 44 [some (.ref 0), some (.int (nI w)), some (.int (nI n)), some (.int (tbF (tht s m w) k).1), some (.int (tbF (tht s m w) k).2.1), some (.int (tbF (tht s m w) k).2.2.1), some (.int (tbF (tht s m w) k).2.2.2.1), some (.int (tbF (tht s m w) k).2.2.2.2.1), some (.int (tbF (tht s m w) k).2.2.2.2.2), some (.int (nI k))] [] I L r) n ?_ ?_
  · refine v_X11_table_44 _ _ _ _ _ _ _ _ _ _ _ _ ⟨fun _ => ?_, fun z => absurd (Int32.le_refl _) z⟩
    generalize tbF (tht s m w) n = q at *
    refine gX_clear h (fun M1 h1 f1 => gX_add h1 (by simp) (fun M2 h2 f2 => gX_add h2 (by simp) (fun M3 h3 f3 => gX_add h3 (by simp) (fun M4 h4 f4 => gX_add h4 (by simp) (fun M5 h5 f5 => ?_)))))
    exact hQ M5 h5 ((f5.trans (f4.trans (f3.trans (f2.trans f1)))).hi (by decide))
  · intro k hkn ih
    rw [show tbF (tht s m w) (k + 1) = tbS (tht s m w k) (nI k) (tbF (tht s m w) k) from rfl] at ih
    generalize tbF (tht s m w) k = q at *
    refine v_X11_table_44 _ _ _ _ _ _ _ _ _ _ _ _ ⟨fun z => absurd ((nI_leI (by omega) (by omega)).mp z) (by omega), fun _ => ?_⟩
    rw [h.2.1.1]
    simp only [nI_1]
    unfold tbS at ih
    refine wX9_isThere h.1 hk rfl hw (fun t => ⟨fun _ => ⟨fun e1 => ⟨fun e2 => ?_, fun e2 => ?_⟩, fun e1 => ⟨fun e2 => ?_, fun e2 => ?_⟩⟩, fun q => absurd q (by decide)⟩) (fun t => ⟨fun q => absurd rfl q, fun _ => ?_⟩)
    · rw [if_pos (show tht s m w k = true from t), if_neg e1, if_pos e2, if_pos e2] at ih; exact ih
    · rw [if_pos (show tht s m w k = true from t), if_neg e1, if_neg e2, if_neg e2] at ih; exact ih
    · rw [if_pos (show tht s m w k = true from t), if_pos e1, if_pos e2, if_pos e2] at ih; exact ih
    · rw [if_pos (show tht s m w k = true from t), if_pos e1, if_neg e2, if_neg e2] at ih; exact ih
    · rw [if_neg (show ¬ tht s m w k = true from by rw [show tht s m w k = false from t]; decide)] at ih; exact ih
theorem wX12_comesIn {w : Nat} {x t : Int32} (hS : MZ s I) (hk : sok s) (hM : MMo s m (I 109)) (hx : x = nI w) (hw : w < s.nr) (h1 : s.th w (m 64 + t) = true → Q 1 I L r) (h0 : s.th w (m 64 + t) = false → Q 0 I L r) : rt_Call G (d + 3) kX12_comesIn [.ref 108, .int x, .int t] I L r Q := by
  refine v_X12_comesIn _ _ _ _ _ ?_
  rw [hM.1]
  exact wX12_isThere hS hk hx hw (fun q => ⟨Or.inr rfl, h1 q⟩) (fun q => ⟨Or.inl rfl, h0 q⟩)
theorem ge1 {y : Int32} : (¬ y < 1 ∧ ¬ 120 < y) ↔ (¬ y < 1 ∧ y ≤ 120) := ⟨fun q => ⟨q.1, Int32.not_lt.mp q.2⟩, fun q => ⟨q.1, Int32.not_lt.mpr q.2⟩⟩
theorem fM_table {x y : Int32} (h : MI B s m us kp mk row tx I) (hk : sok s)
    (hQ : ∀ M r', MI B s m us kp mk (fTable s m row x y).2 tx M → Lo M I → M 108 14 = 0 → Q (fTable s m row x y).1 M L r') : rt_Call G (d + 4) kX12_table [.ref 108, .int x, .int y] I L r Q := by
  have h12 := hk.2.1
  have h0 := h.t0
  have hLJ : Lo (rt_u I 108 14 0) I := Lo.of u14F (by decide)
  unfold fTable at hQ
  have hno : ¬ (inb x s.nr = true ∧ (¬ y < 1 ∧ y ≤ 120)) → Q (-1) (rt_u I 108 14 0) L r := by
    intro z
    rw [if_neg z] at hQ
    exact hQ _ _ h0 hLJ rt_u_at
  refine v_X12_table _ _ _ _ _ (sX12_isRoad h0.1.2.1 (by omega) (fun z => ⟨fun q => absurd q (by decide), fun _ => sX12_in (fun z2 => ⟨fun _ => ?_, fun q => absurd q (by decide)⟩) (fun z2 => ⟨fun q => absurd rfl q, fun _ => hno (fun q => z2 (ge1.mpr q.2))⟩)⟩) (fun z => ⟨fun _ => hno (fun q => z (inb_iff.mp q.1)), fun q => absurd rfl q⟩))
  rw [if_pos ⟨inb_iff.mpr z, ge1.mp z2⟩] at hQ
  obtain ⟨w, hw, rfl⟩ := (inr_iff (by omega)).mp z
  obtain ⟨n, hn1, hn, rfl⟩ := r120 (ge1.mp z2)
  rw [cc_nI (by omega), cc_nI (by omega)] at hQ
  refine rt_loop (P := fun k => rt_AW G (d + 4) kX12_table Q 45 [some (.ref 108), some (.int (nI w)), some (.int (nI n)), some (.int (tbF (tht s m w) k).2.2.1), some (.int (tbF (tht s m w) k).1), some (.int (tbF (tht s m w) k).2.1), some (.int (tbF (tht s m w) k).2.2.2.2.2), some (.int (tbF (tht s m w) k).2.2.2.1), some (.int (tbF (tht s m w) k).2.2.2.2.1), some (.int (nI k))] [] (rt_u I 108 14 0) L r) n ?_ ?_
  · refine v_X12_table_45 _ _ _ _ _ _ _ _ _ _ _ _ ⟨fun _ => ?_, fun z => absurd (Int32.le_refl _) z⟩
    generalize tbF (tht s m w) n = q at *
    refine gM_tell h0.c13 (by simp) (fun M2 h2 l2 j2 => gM_tell h2 (by simp) (fun M3 h3 l3 j3 => gM_tell h3 (by simp) (fun M4 h4 l4 j4 => gM_tell h4 (by simp) (fun M5 h5 l5 j5 => ?_))))
    refine hQ M5 _ h5 (l5.trans (l4.trans (l3.trans (l2.trans (c13L.trans hLJ))))) ?_
    rw [j5 14 (by decide), j4 14 (by decide), j3 14 (by decide), j2 14 (by decide), rt_u1 (by decide), rt_u_at]
  · intro k hkn ih
    rw [show tbF (tht s m w) (k + 1) = tbS (tht s m w k) (nI k) (tbF (tht s m w) k) from rfl] at ih
    generalize tbF (tht s m w) k = q at *
    refine v_X12_table_45 _ _ _ _ _ _ _ _ _ _ _ _ ⟨fun z => absurd ((nI_leI (by omega) (by omega)).mp z) (by omega), fun _ => ?_⟩
    simp only [nI_1]
    unfold tbS at ih
    refine wX12_comesIn h0.1 hk h0.2.1 rfl hw (fun t => ⟨fun _ => ⟨fun e1 => ⟨fun e2 => ?_, fun e2 => ?_⟩, fun e1 => ⟨fun e2 => ?_, fun e2 => ?_⟩⟩, fun q => absurd q (by decide)⟩) (fun t => ⟨fun q => absurd rfl q, fun _ => ?_⟩)
    · rw [if_pos (show tht s m w k = true from t), if_neg e1, if_neg (Int32.not_le.mpr e2), if_neg (Int32.not_le.mpr e2)] at ih; exact ih
    · rw [if_pos (show tht s m w k = true from t), if_neg e1, if_pos (Int32.not_lt.mp e2), if_pos (Int32.not_lt.mp e2)] at ih; exact ih
    · rw [if_pos (show tht s m w k = true from t), if_pos e1, if_neg (Int32.not_le.mpr e2), if_neg (Int32.not_le.mpr e2)] at ih; exact ih
    · rw [if_pos (show tht s m w k = true from t), if_pos e1, if_pos (Int32.not_lt.mp e2), if_pos (Int32.not_lt.mp e2)] at ih; exact ih
    · rw [if_neg (show ¬ tht s m w k = true from by rw [show tht s m w k = false from t]; decide)] at ih; exact ih
/-! comes -/
theorem sX9_stays {w b : Nat} {x f : Int32} {th : Nat → Bool} (hS : XZ s I) (hk : sok s) (hx : x = nI w) (hw : w < s.nr) (hb : b ≤ 120) (hth : ∀ k, k < b → th k = s.th w (f + nI k)) (hQ : Q (nI (runF th b 0)) I L r) : rt_Call G (d + 3) kX9_stays [.ref 20, .int x, .int f, .int (nI b)] I L r Q := by
  refine v_X9_stays _ _ _ _ _ _ ?_
  have key : ∀ g k, g + k = b → Q (nI (runF th g k)) I L r → rt_AW G (d + 3) kX9_stays Q 3 [some (.ref 20), some (.int x), some (.int f), some (.int (nI b)), some (.int (nI k))] [] I L r := by
    intro g
    induction g with
    | zero =>
      intro k hg hq
      obtain rfl : k = b := by omega
      exact v_X9_stays_3 _ _ _ _ _ _ _ ⟨fun _ => hq, fun z => absurd (Int32.le_refl _) z⟩
    | succ g ih =>
      intro k hg hQ
      unfold runF at hQ
      rw [hth k (by omega)] at hQ
      refine v_X9_stays_3 _ _ _ _ _ _ _ ⟨fun z => absurd ((nI_leI (by omega) (by omega)).mp z) (by omega), fun _ => wX9_isThere hS hk hx hw (fun t => ⟨fun q => absurd q (by decide), fun _ => ?_⟩) (fun t => ⟨fun _ => ?_, fun q => absurd rfl q⟩)⟩
      · rw [if_pos t] at hQ
        rw [nI_1]
        exact ih (k + 1) (by omega) hQ
      · rw [if_neg (by rw [t]; decide)] at hQ
        exact hQ
  exact key b 0 (by omega) hQ
theorem lt120 {k : Nat} (h : k < 2 ^ 31) : (120 : Int32) < nI k ↔ 120 < k := n_lt (a := 120) (b := k) rfl rfl (by omega) h
theorem fX_comes {x : Int32} (h : XI s m us kp mk row tx I) (hk : sok s)
    (hQ : ∀ M, XI s m us kp mk (fComes s m row x).2 tx M → (∀ c, 108 ≤ c → M c = I c) → Q (fComes s m row x).1 M L r) : rt_Call G (d + 4) kX11_comes [.ref 0, .int x] I L r Q := by
  have h12 := hk.2.1
  unfold fComes at hQ
  refine v_X11_comes _ _ _ _ (sX2_hasRoad h.1.2.1 (fun z => ⟨fun _ => ?_, fun q => absurd q (by decide)⟩) (fun z => ⟨fun q => absurd rfl q, fun _ => ?_⟩))
  · rw [if_pos (inb_iff.mpr z)] at hQ
    obtain ⟨w, hw, rfl⟩ := (inr_iff (by omega)).mp z
    rw [cc_nI (by omega)] at hQ
    have key : ∀ g k, g + k = 121 → fstF (tht s m w) 121 0 = fstF (tht s m w) g k → rt_AW G (d + 4) kX11_comes Q 15 [some (.ref 0), some (.int (nI w)), some (.int (nI k))] [] I L r := by
      intro g
      induction g with
      | zero =>
        intro k hg e
        obtain rfl : k = 121 := by omega
        rw [if_neg (by rw [e]; show ¬ (121 : Nat) ≤ 120; omega)] at hQ
        exact v_X11_comes_15 _ _ _ _ _ ⟨fun _ => hQ I h (fun _ _ => rfl), fun z => absurd (by decide) z⟩
      | succ g ih =>
        intro k hg e
        refine v_X11_comes_15 _ _ _ _ _ ⟨fun z => absurd ((lt120 (by omega)).mp z) (by omega), fun _ => ?_⟩
        rw [h.2.1.1]
        refine wX9_isThere h.1 hk rfl hw (fun t => ⟨fun q => absurd q (by decide), fun _ => ?_⟩) (fun t => ⟨fun _ => ?_, fun q => absurd rfl q⟩)
        · have e2 : fstF (tht s m w) 121 0 = k := by
            rw [e]
            unfold fstF
            exact if_pos t
          rw [e2, if_pos (by omega)] at hQ
          refine gX_clear h (fun M1 h1 f1 => ?_)
          rw [h1.2.1.1]
          refine sX9_stays (b := 120) (th := fun j => tht s m w (k + j)) h1.1 hk rfl hw (Nat.le_refl _) (fun j hj => ?_) (gX_add h1 (by simp) (fun M2 h2 f2 => hQ M2 h2 ((f2.trans f1).hi (by decide))))
          show s.th w (m 64 + nI (k + j)) = s.th w (m 64 + nI k + nI j)
          rw [Int32.add_assoc, nI_add]
        · rw [nI_1]
          refine ih (k + 1) (by omega) ?_
          rw [e]
          show (if tht s m w k = true then k else fstF (tht s m w) g (k + 1)) = _
          exact if_neg (by rw [show tht s m w k = false from t]; decide)
    exact key 121 0 (by omega) rfl
  · rw [if_neg (mt inb_iff.mp z)] at hQ
    exact hQ I h (fun _ _ => rfl)
theorem fM_comes {x : Int32} (h : MI B s m us kp mk row tx I) (hk : sok s)
    (hQ : ∀ M r', MI B s m us kp mk (fComes s m row x).2 tx M → Lo M I → M 108 14 = 0 → Q (fComes s m row x).1 M L r') : rt_Call G (d + 4) kX12_comes [.ref 108, .int x] I L r Q := by
  have h12 := hk.2.1
  have h0 := h.t0
  have hLJ : Lo (rt_u I 108 14 0) I := Lo.of u14F (by decide)
  unfold fComes at hQ
  refine v_X12_comes _ _ _ _ (sX12_isRoad h0.1.2.1 (by omega) (fun z => ⟨fun _ => ?_, fun q => absurd q (by decide)⟩) (fun z => ⟨fun q => absurd rfl q, fun _ => ?_⟩))
  · rw [if_pos (inb_iff.mpr z)] at hQ
    obtain ⟨w, hw, rfl⟩ := (inr_iff (by omega)).mp z
    rw [cc_nI (by omega)] at hQ
    have run : ∀ k, k ≤ 120 → fstF (tht s m w) 121 0 = k → ∀ g j, g + j = 120 → runF (fun i => tht s m w (k + i)) 120 0 = runF (fun i => tht s m w (k + i)) g j → rt_AW G (d + 4) kX12_comes Q 49 [some (.ref 108), some (.int (nI w)), some (.int (nI k)), some (.int (nI j))] [] (rt_u I 108 14 0) L r := by
      intro k hk120 e
      rw [e, if_pos hk120] at hQ
      have fin : ∀ j, runF (fun i => tht s m w (k + i)) 120 0 = j → rt_Call G (d + 3) kX12_tell [.ref 108, .int (nI j)] (rt_u (rt_u I 108 14 0) 108 13 0) L r (fun v1 I1 L1 r1 => Q (nI k) I1 L1 r1) := by
        intro j ej
        rw [ej] at hQ
        refine gM_tell h0.c13 (by simp) (fun M2 h2 l2 j2 => hQ M2 _ h2 (l2.trans (c13L.trans hLJ)) ?_)
        rw [j2 14 (by decide), rt_u1 (by decide), rt_u_at]
      intro g
      induction g with
      | zero =>
        intro j hg ej
        obtain rfl : j = 120 := by omega
        exact v_X12_comes_49 _ _ _ _ _ _ ⟨fun _ => fin 120 ej, fun z => absurd (by decide) z⟩
      | succ g ih =>
        intro j hg ej
        refine v_X12_comes_49 _ _ _ _ _ _ ⟨fun z => absurd ((n_le (a := 120) (b := j) rfl rfl (by omega) (by omega)).mp z) (by omega), fun _ => ?_⟩
        rw [nI_add, nI_1]
        refine wX12_comesIn h0.1 hk h0.2.1 rfl hw (fun t => ⟨fun q => absurd q (by decide), fun _ => ?_⟩) (fun t => ⟨fun _ => ?_, fun q => absurd rfl q⟩)
        · refine ih (j + 1) (by omega) ?_
          rw [ej]
          show (if tht s m w (k + j) = true then runF _ g (j + 1) else j) = _
          exact if_pos t
        · refine fin j ?_
          rw [ej]
          show (if tht s m w (k + j) = true then runF _ g (j + 1) else j) = _
          exact if_neg (by rw [show tht s m w (k + j) = false from t]; decide)
    have key : ∀ g k, g + k = 121 → fstF (tht s m w) 121 0 = fstF (tht s m w) g k → rt_AW G (d + 4) kX12_comes Q 17 [some (.ref 108), some (.int (nI w)), some (.int (nI k)), none] [] (rt_u I 108 14 0) L r := by
      intro g
      induction g with
      | zero =>
        intro k hg e
        obtain rfl : k = 121 := by omega
        rw [if_neg (by rw [e]; show ¬ (121 : Nat) ≤ 120; omega)] at hQ
        exact v_X12_comes_17 _ _ _ _ _ ⟨fun _ => ⟨fun z => absurd z (by decide), fun _ => hQ _ _ h0 hLJ rt_u_at⟩, fun z => absurd (by decide) z⟩
      | succ g ih =>
        intro k hg e
        have hle : nI k ≤ 120 := (n_le (a := k) (b := 120) rfl rfl (by omega) (by omega)).mpr (by omega)
        refine v_X12_comes_17 _ _ _ _ _ ⟨fun z => absurd ((lt120 (by omega)).mp z) (by omega), fun _ => ?_⟩
        refine wX12_comesIn h0.1 hk h0.2.1 rfl hw (fun t => ⟨fun _ => ⟨fun _ => ?_, fun z => absurd hle z⟩, fun q => absurd q (by decide)⟩) (fun t => ⟨fun q => absurd rfl q, fun _ => ?_⟩)
        · refine run k (by omega) ?_ 120 0 (by omega) rfl
          rw [e]
          unfold fstF
          exact if_pos t
        · rw [nI_1]
          refine ih (k + 1) (by omega) ?_
          rw [e]
          show (if tht s m w k = true then k else fstF (tht s m w) g (k + 1)) = _
          exact if_neg (by rw [show tht s m w k = false from t]; decide)
    exact key 121 0 (by omega) rfl
  · rw [if_neg (mt inb_iff.mp z)] at hQ
    exact hQ _ _ h0 hLJ rt_u_at
/-! ebb -/
theorem m64_0 : m 64 + nI 0 = m 64 := by rw [nI_0, Int32.add_zero]
theorem fX_ebb (h : XI s m us kp mk row tx I) (hk : sok s)
    (hQ : ∀ M, XI s m us kp mk (ebRow s m) tx M → (∀ c, 108 ≤ c → M c = I c) → Q (lvt s m (ebF s m 120).1) M L r) : rt_Call G (d + 2) kX11_ebb [.ref 0] I L r Q := by
  refine v_X11_ebb _ _ _ (wX8_heightAt h.1 hk ?_)
  rw [h.2.1.1]
  have key : ∀ g k, g + k = 120 → rt_AW G (d + 2) kX11_ebb Q 28 [some (.ref 0), some (.int (lvt s m (ebF s m k).1)), some (.int (lvt s m (ebF s m k).2)), some (.int (nI (ebF s m k).1)), some (.int (nI (ebF s m k).2)), some (.int (nI (k + 1))), none] [] I L r := by
    intro g
    induction g with
    | zero =>
      intro k hg
      obtain rfl : k = 120 := by omega
      refine v_X11_ebb_28 _ _ _ _ _ _ _ _ ⟨fun _ => ?_, fun z => absurd (by decide) z⟩
      refine gX_clear h (fun M1 h1 f1 => gX_add h1 (by simp) (fun M2 h2 f2 => gX_add h2 (by simp) (fun M3 h3 f3 => gX_add h3 (by simp) (fun M4 h4 f4 => ?_))))
      exact hQ M4 h4 ((f4.trans (f3.trans (f2.trans f1))).hi (by decide))
    | succ g ih =>
      intro k hg
      have ih2 := ih (k + 1) (by omega)
      have e1 : (ebF s m (k + 1)).1 = if lvt s m (k + 1) ≤ lvt s m (ebF s m k).1 then (ebF s m k).1 else k + 1 := rfl
      have e2 : (ebF s m (k + 1)).2 = if lvt s m (ebF s m k).2 ≤ lvt s m (k + 1) then (ebF s m k).2 else k + 1 := rfl
      rw [e1, e2] at ih2
      refine v_X11_ebb_28 _ _ _ _ _ _ _ _ ⟨fun z => absurd ((lt120 (by omega)).mp z) (by omega), fun _ => wX8_heightAt h.1 hk ?_⟩
      rw [h.2.1.1]
      simp only [nI_1]
      refine ⟨fun z1 => ⟨fun z2 => ?_, fun z2 => ?_⟩, fun z1 => ⟨fun z2 => ?_, fun z2 => ?_⟩⟩
      · rw [if_pos (show lvt s m (k + 1) ≤ lvt s m (ebF s m k).1 from z1), if_pos (show lvt s m (ebF s m k).2 ≤ lvt s m (k + 1) from z2)] at ih2; exact ih2
      · rw [if_pos (show lvt s m (k + 1) ≤ lvt s m (ebF s m k).1 from z1), if_neg (show ¬ lvt s m (ebF s m k).2 ≤ lvt s m (k + 1) from z2)] at ih2; exact ih2
      · rw [if_neg (show ¬ lvt s m (k + 1) ≤ lvt s m (ebF s m k).1 from z1), if_pos (show lvt s m (ebF s m k).2 ≤ lvt s m (k + 1) from z2)] at ih2; exact ih2
      · rw [if_neg (show ¬ lvt s m (k + 1) ≤ lvt s m (ebF s m k).1 from z1), if_neg (show ¬ lvt s m (ebF s m k).2 ≤ lvt s m (k + 1) from z2)] at ih2; exact ih2
  have := key 120 0 (by omega)
  unfold lvt at this
  rw [show (ebF s m 0).1 = 0 from rfl, show (ebF s m 0).2 = 0 from rfl, m64_0] at this
  exact this
theorem fM_ebb (h : MI B s m us kp mk row tx I) (hk : sok s)
    (hQ : ∀ M r', MI B s m us kp mk (ebRow s m) tx M → Lo M I → M 108 14 = 0 → Q (lvt s m (ebF s m 120).1) M L r') : rt_Call G (d + 3) kX12_ebb [.ref 108] I L r Q := by
  have h0 := h.t0
  have hLJ : Lo (rt_u I 108 14 0) I := Lo.of u14F (by decide)
  refine v_X12_ebb _ _ _ ?_
  have key : ∀ g k, g + k = 120 → rt_AW G (d + 3) kX12_ebb Q 11 [some (.ref 108), some (.int (nI (ebF s m k).1)), some (.int (nI (ebF s m k).2)), some (.int (nI (k + 1)))] [] (rt_u I 108 14 0) L r := by
    intro g
    induction g with
    | zero =>
      intro k hg
      obtain rfl : k = 120 := by omega
      refine v_X12_ebb_11 _ _ _ _ _ _ ⟨fun _ => ?_, fun z => absurd (by decide) z⟩
      refine gM_tell h0.c13 (by simp) (fun M2 h2 l2 j2 => wX12_levelIn h2.1 hk h2.2.1 (gM_tell h2 (by simp) (fun M3 h3 l3 j3 => gM_tell h3 (by simp) (fun M4 h4 l4 j4 => wX12_levelIn h4.1 hk h4.2.1 ?_))))
      refine hQ M4 _ h4 (l4.trans (l3.trans (l2.trans (c13L.trans hLJ)))) ?_
      rw [j4 14 (by decide), j3 14 (by decide), j2 14 (by decide), rt_u1 (by decide), rt_u_at]
    | succ g ih =>
      intro k hg
      have ih2 := ih (k + 1) (by omega)
      have e1 : (ebF s m (k + 1)).1 = if lvt s m (k + 1) ≤ lvt s m (ebF s m k).1 then (ebF s m k).1 else k + 1 := rfl
      have e2 : (ebF s m (k + 1)).2 = if lvt s m (ebF s m k).2 ≤ lvt s m (k + 1) then (ebF s m k).2 else k + 1 := rfl
      rw [e1, e2] at ih2
      refine v_X12_ebb_11 _ _ _ _ _ _ ⟨fun z => absurd ((lt120 (by omega)).mp z) (by omega), fun _ => wX12_levelIn h0.1 hk h0.2.1 (wX12_levelIn h0.1 hk h0.2.1 ?_)⟩
      simp only [nI_1]
      refine ⟨fun z1 => wX12_levelIn h0.1 hk h0.2.1 (wX12_levelIn h0.1 hk h0.2.1 ⟨fun z2 => ?_, fun z2 => ?_⟩), fun z1 => wX12_levelIn h0.1 hk h0.2.1 (wX12_levelIn h0.1 hk h0.2.1 ⟨fun z2 => ?_, fun z2 => ?_⟩)⟩
      · rw [if_pos (show lvt s m (k + 1) ≤ lvt s m (ebF s m k).1 from z1), if_pos (show lvt s m (ebF s m k).2 ≤ lvt s m (k + 1) from z2)] at ih2; exact ih2
      · rw [if_pos (show lvt s m (k + 1) ≤ lvt s m (ebF s m k).1 from z1), if_neg (show ¬ lvt s m (ebF s m k).2 ≤ lvt s m (k + 1) from z2)] at ih2; exact ih2
      · rw [if_neg (show ¬ lvt s m (k + 1) ≤ lvt s m (ebF s m k).1 from z1), if_pos (show lvt s m (ebF s m k).2 ≤ lvt s m (k + 1) from z2)] at ih2; exact ih2
      · rw [if_neg (show ¬ lvt s m (k + 1) ≤ lvt s m (ebF s m k).1 from z1), if_neg (show ¬ lvt s m (ebF s m k).2 ≤ lvt s m (k + 1) from z2)] at ih2; exact ih2
  exact key 120 0 (by omega)
/-! slack -/
theorem fX_slack (h : XI s m us kp mk row tx I) (hk : sok s)
    (hQ : ∀ M, XI s m us kp mk (slRow s m) tx M → (∀ c, 108 ≤ c → M c = I c) → Q (slF s m 120).1 M L r) : rt_Call G (d + 3) kX11_slack [.ref 0] I L r Q := by
  refine v_X11_slack _ _ _ (wX8_heightAt h.1 hk ?_)
  rw [h.2.1.1]
  have key : ∀ g k, g + k = 120 → rt_AW G (d + 3) kX11_slack Q 25 [some (.ref 0), some (.int (slF s m k).1), some (.int (slF s m k).2), some (.int (lvt s m k)), some (.int (nI k)), none] [] I L r := by
    intro g
    induction g with
    | zero =>
      intro k hg
      obtain rfl : k = 120 := by omega
      unfold slRow at hQ
      refine v_X11_slack_25 _ _ _ _ _ _ _ ⟨fun _ => ?_, fun z => absurd (by decide) z⟩
      refine gX_clear h (fun M1 h1 f1 => gX_add h1 (by simp) (fun M2 h2 f2 => ⟨fun z => ?_, fun z => ?_⟩))
      · rw [if_neg z] at hQ
        rw [h2.2.1.1]
        refine wX9_roadsThereAt h2.1 hk (sJ6_bitCount (b := fun w => s.th w (m 64 + (slF s m 120).2)) (n := s.nr) (bts_n (by have := hk.2.1; omega)) hk.2.1 (gX_add h2 (by simp) (fun M3 h3 f3 => ?_)))
        exact hQ M3 h3 ((f3.trans (f2.trans f1)).hi (by decide))
      · rw [if_pos z] at hQ
        refine gX_add h2 (by simp) (fun M3 h3 f3 => ?_)
        exact hQ M3 h3 ((f3.trans (f2.trans f1)).hi (by decide))
    | succ g ih =>
      intro k hg
      have ih2 := ih (k + 1) (by omega)
      have e1 : slF s m (k + 1) = if lvt s m (k + 1) = lvt s m k then ((slF s m k).1 + 1, if (slF s m k).2 = -1 then nI k else (slF s m k).2) else slF s m k := rfl
      rw [e1] at ih2
      refine v_X11_slack_25 _ _ _ _ _ _ _ ⟨fun z => absurd ((n_le (a := 120) (b := k) rfl rfl (by omega) (by omega)).mp z) (by omega), fun _ => wX8_heightAt h.1 hk ?_⟩
      rw [h.2.1.1, Int32.add_assoc]
      simp only [nI_1]
      refine ⟨fun z1 => ?_, fun z1 => ⟨fun z2 => ?_, fun z2 => ?_⟩⟩
      · rw [if_neg (show ¬ lvt s m (k + 1) = _ from z1)] at ih2; exact ih2
      · rw [if_pos (show lvt s m (k + 1) = _ from z1), if_neg z2] at ih2; exact ih2
      · rw [if_pos (show lvt s m (k + 1) = _ from z1), if_pos z2] at ih2; exact ih2
  have := key 120 0 (by omega)
  unfold lvt at this
  rw [m64_0] at this
  exact this
theorem fM_slack (h : MI B s m us kp mk row tx I) (hk : sok s)
    (hQ : ∀ M r', MI B s m us kp mk (slRow s m) tx M → Lo M I → M 108 14 = 0 → Q (slF s m 120).1 M L r') : rt_Call G (d + 4) kX12_slack [.ref 108] I L r Q := by
  have h12 := hk.2.1
  have h0 := h.t0
  have hLJ : Lo (rt_u I 108 14 0) I := Lo.of u14F (by decide)
  refine v_X12_slack _ _ _ ?_
  have fin : rt_AW G (d + 4) kX12_slack Q 60 [some (.ref 108), some (.int (slF s m 120).1), some (.int (slF s m 120).2), some (.int 0), some (.int 0)] [] (rt_u I 108 14 0) L r := by
    unfold slRow at hQ
    have tl : ∀ v, (if (slF s m 120).2 = -1 then (0 : Int32) else nI (cb (fun w => s.th w (m 64 + (slF s m 120).2)) s.nr)) = v → rt_Call G (d + 3) kX12_tell [.ref 108, .int (slF s m 120).2] (rt_u (rt_u I 108 14 0) 108 13 0) L r (fun v1 I1 L1 r1 => rt_Call G (d + 3) kX12_tell [.ref 108, .int v] I1 L1 r1 (fun v2 I2 L2 r2 => Q (slF s m 120).1 I2 L2 r2)) := by
      intro v e
      rw [e] at hQ
      refine gM_tell h0.c13 (by simp) (fun M2 h2 l2 j2 => gM_tell h2 (by simp) (fun M3 h3 l3 j3 => ?_))
      refine hQ M3 _ h3 (l3.trans (l2.trans (c13L.trans hLJ))) ?_
      rw [j3 14 (by decide), j2 14 (by decide), rt_u1 (by decide), rt_u_at]
    by_cases e : (slF s m 120).2 = -1
    · by_cases e0 : s.nr = 0
      · exact v_X12_slack_60 _ _ _ _ _ _ _ ⟨fun _ => tl 0 (if_pos e), fun z => absurd (by rw [h0.1.2.1, e0]; decide) z⟩
      · refine v_X12_slack_60 _ _ _ _ _ _ _ ⟨fun z => absurd ((n_le (b := 0) h0.1.2.1 rfl (by omega) (by omega)).mp z) (by omega), fun _ => ⟨fun _ => tl 0 (if_pos e), fun z => absurd e z⟩⟩
    · refine rt_loop (P := fun k => rt_AW G (d + 4) kX12_slack Q 60 [some (.ref 108), some (.int (slF s m 120).1), some (.int (slF s m 120).2), some (.int (nI (cb (fun w => s.th w (m 64 + (slF s m 120).2)) k))), some (.int (nI k))] [] (rt_u I 108 14 0) L r) s.nr ?_ ?_
      · exact v_X12_slack_60 _ _ _ _ _ _ _ ⟨fun _ => tl _ (if_neg e), fun z => absurd (by rw [h0.1.2.1]; exact Int32.le_refl _) z⟩
      · intro k hkn ih
        refine v_X12_slack_60 _ _ _ _ _ _ _ ⟨fun z => absurd ((n_le h0.1.2.1 rfl (by omega) (by omega)).mp z) (by omega), fun _ => ⟨fun z => absurd z e, fun _ => ?_⟩⟩
        simp only [nI_1]
        rw [cb_s] at ih
        refine wX12_comesIn h0.1 hk h0.2.1 rfl hkn (fun t => ⟨fun q => absurd q (by decide), fun _ => ?_⟩) (fun t => ⟨fun _ => ?_, fun q => absurd rfl q⟩)
        · rw [if_pos t] at ih; exact ih
        · rw [if_neg (by rw [t]; decide)] at ih
          rw [Int32.add_zero]; exact ih
  have key : ∀ g k, g + k = 120 → rt_AW G (d + 4) kX12_slack Q 11 [some (.ref 108), some (.int (slF s m k).1), some (.int (slF s m k).2), some (.int (nI k)), none] [] (rt_u I 108 14 0) L r := by
    intro g
    induction g with
    | zero =>
      intro k hg
      obtain rfl : k = 120 := by omega
      exact v_X12_slack_11 _ _ _ _ _ _ ⟨fun _ => fin, fun z => absurd (by decide) z⟩
    | succ g ih =>
      intro k hg
      have ih2 := ih (k + 1) (by omega)
      have e1 : slF s m (k + 1) = if lvt s m (k + 1) = lvt s m k then ((slF s m k).1 + 1, if (slF s m k).2 = -1 then nI k else (slF s m k).2) else slF s m k := rfl
      rw [e1] at ih2
      refine v_X12_slack_11 _ _ _ _ _ _ ⟨fun z => absurd ((n_le (a := 120) (b := k) rfl rfl (by omega) (by omega)).mp z) (by omega), fun _ => wX12_levelIn h0.1 hk h0.2.1 (wX12_levelIn h0.1 hk h0.2.1 ?_)⟩
      simp only [nI_1]
      refine ⟨fun z1 => ⟨fun z2 => ?_, fun z2 => ?_⟩, fun z1 => ?_⟩
      · rw [if_pos (show lvt s m (k + 1) = lvt s m k from z1.symm), if_neg z2] at ih2; exact ih2
      · rw [if_pos (show lvt s m (k + 1) = lvt s m k from z1.symm), if_pos z2] at ih2; exact ih2
      · rw [if_neg (show ¬ lvt s m (k + 1) = lvt s m k from fun q => z1 q.symm)] at ih2; exact ih2
  exact key 120 0 (by omega)
end
