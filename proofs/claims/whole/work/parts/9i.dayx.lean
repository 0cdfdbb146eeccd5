/-! day(): the class -/
def dChain (s : SV) (m : MO) (x : Int32) : Int32 × MO := aChain s m x (1 - m (cc x * 8 + 5))
def dRes (r : Int32 × MO) : Bool × MO × Nat := (decide (¬ r.1 < 0), r.2, 0)
def dAct (s : SV) (m : MO) (t : T3) : Bool × MO × Nat :=
  if t.1 = 98 then dRes (aRound s m t.2.1)
  else if t.1 = 99 then dRes (dChain s m t.2.1)
  else if t.1 = 111 then dRes (aOut s m t.2.1 t.2.2)
  else if t.1 = 116 then (true, tns s m (cc t.2.1), aN s m (cc t.2.1))
  else dRes (aLoad s m t.2.1 t.2.2)
def dRun (s : SV) (A : Nat → T3) : Nat → Nat → MO → Nat → Nat × MO × Nat
  | 0, i, m, cm => (i, m, cm)
  | F + 1, i, m, cm => if (dAct s m (A i)).1 = true then dRun s A F (i + 1) (dAct s m (A i)).2.1 (cm + (dAct s m (A i)).2.2) else (i, m, cm)
theorem dRun_s {s : SV} {A : Nat → T3} {F i cm : Nat} {m : MO} : dRun s A (F + 1) i m cm = (if (dAct s m (A i)).1 = true then dRun s A F (i + 1) (dAct s m (A i)).2.1 (cm + (dAct s m (A i)).2.2) else (i, m, cm)) := rfl
def dOut (m : MO) (us : List MO) (k : Nat) (r : Nat × MO × Nat) : Int32 × MO × List MO × List Int32 := (nI r.1, r.2.1, if r.1 = 0 then us else (m :: us).take 12, [if r.1 < k then 1 else 0, nI r.2.2])
def dRd (tx : TXT) : Nat × Option (Nat × (Nat → T3)) := if tx.1 = 0 then (0, some (0, fun _ => (0, 0, 0))) else actsF (txc tx 60) 61 0 0 (fun _ => (0, 0, 0))
def fDay (s : SV) (m : MO) (us : List MO) (row : List Int32) (tx : TXT) : Int32 × MO × List MO × List Int32 := match dRd tx with
  | (q, none) => (-1 - nI q, m, us, row)
  | (q, some (k, A)) => if q = tx.1 then dOut m us k (dRun s A k 0 m 0) else (-1 - nI q, m, us, row)
theorem dAct_b {s : SV} {m : MO} {t : T3} (h : t.1 = 98) : dAct s m t = dRes (aRound s m t.2.1) := by unfold dAct; rw [if_pos h]
theorem dAct_c {s : SV} {m : MO} {t : T3} (h : t.1 = 99) : dAct s m t = dRes (dChain s m t.2.1) := by unfold dAct; rw [if_neg (by rw [h]; decide), if_pos h]
theorem dAct_o {s : SV} {m : MO} {t : T3} (h : t.1 = 111) : dAct s m t = dRes (aOut s m t.2.1 t.2.2) := by unfold dAct; rw [if_neg (by rw [h]; decide), if_neg (by rw [h]; decide), if_pos h]
theorem dAct_t {s : SV} {m : MO} {t : T3} (h : t.1 = 116) : dAct s m t = (true, tns s m (cc t.2.1), aN s m (cc t.2.1)) := by unfold dAct; rw [if_neg (by rw [h]; decide), if_neg (by rw [h]; decide), if_neg (by rw [h]; decide), if_pos h]
theorem dAct_l {s : SV} {m : MO} {t : T3} (h : t.1 = 108) : dAct s m t = dRes (aLoad s m t.2.1 t.2.2) := by unfold dAct; rw [if_neg (by rw [h]; decide), if_neg (by rw [h]; decide), if_neg (by rw [h]; decide), if_neg (by rw [h]; decide)]
theorem dRes_t {r : Int32 × MO} (h : ¬ r.1 < 0) : (dRes r).1 = true := decide_eq_true h
theorem dRes_f {r : Int32 × MO} (h : r.1 < 0) : (dRes r).1 = false := decide_eq_false (not_not_intro h)
theorem dAct_ok {s : SV} {m : MO} {t : T3} {B : Nat} (hk : sok s) (hm : mok s B m) (ht : tok3 t) : mok s (B + 99) (dAct s m t).2.1 := by
  obtain ⟨h1, a, b, ha, hb, ea, eb, -⟩ := ht
  rcases h1 with e | e | e | e | e
  · rw [dAct_o e]; exact (aOut_ok hk hm _ _).mono (by omega)
  · rw [dAct_t e, ea, cc_nI (by omega)]; exact (tns_ok hk hm a).mono (by omega)
  · rw [dAct_b e]; exact (aRound_ok hk hm _).mono (by omega)
  · rw [dAct_c e]; exact (aChain_ok hk hm _ _).mono (by omega)
  · rw [dAct_l e]; exact (aLoad_ok hk hm _ _).mono (by omega)
/-- what an act of a day changes in the class -/
def DF (M I : rt_I) : Prop := Fr M I [10, 11, 16, 17, 18, 19, 20, 25] ∧ ∀ j, j ≠ 4 → M 25 j = I 25 j
theorem CF.D {M I : rt_I} (h : CF M I) : DF M I := ⟨h.1.mono (by decide), fun j _ => by rw [h.1 25 (by decide)]⟩
theorem DF.trans {A B C : rt_I} (h1 : DF A B) (h2 : DF B C) : DF A C := ⟨h1.1.trans h2.1, fun j hj => (h1.2 j hj).trans (h2.2 j hj)⟩
section
variable {G : rt_G} {d : Nat} {Q : rt_Q} {I : rt_I} {L : rt_L} {r B : Nat} {s : SV} {m m0 : MO} {us : List MO} {kp : Nat → Option MO} {mk : MKT} {row : List Int32} {tx : TXT}
theorem XIp.d25 {v : Int32} (h : XIp s m0 m us kp mk row tx I) : XIp s m0 m us kp mk row tx (rt_u I 25 4 v) := by
  obtain ⟨h1, h2, h3, h4, h5, h6, h7⟩ := h
  have hc : ∀ c, c ≠ 25 → (rt_u I 25 4 v) c = I c := fun c hc => rt_u_ne hc
  exact ⟨h1.fr ⟨by rw [hc 12 (by omega)], by rw [hc 12 (by omega)]⟩ (by rw [hc 16 (by omega)]) (by rw [hc 3 (by omega)]) (hc 4 (by omega)) (hc 13 (by omega)) (hc 14 (by omega)) (hc 15 (by omega)) (by rw [hc 6 (by omega)]) (hc 7 (by omega)) (by rw [hc 20 (by omega)]),
    h2.fr (by rw [hc 16 (by omega)]) (hc 17 (by omega)) (hc 18 (by omega)) (hc 19 (by omega)), h3.fr (hc 21 (by omega)) (fun c a b => hc c (by omega)), h4.fr (hc 24 (by omega)) (fun c a b => hc c (by omega)), h5.fr (by rw [hc 38 (by omega)]) (hc 39 (by omega)) (hc 40 (by omega)), h6.fr (hc 42 (by omega)) (hc 43 (by omega)), h7.fr (by rw [hc 1 (by omega)]) (hc 2 (by omega))⟩
theorem sX0_runAct {t : T3} {cm : Nat} (ht : tok3 t) (h : XIp s m0 m us kp mk row tx I) (hk : sok s) (hm : mok s B m) (hB : B + 99 < 2 ^ 29) (h25 : I 25 4 = nI cm)
    (h1 : ∀ M v, (dAct s m t).1 = true → (0 : Int32) ≤ v → XIp s m0 (dAct s m t).2.1 us kp mk row tx M → DF M I → M 25 4 = nI (cm + (dAct s m t).2.2) → Q v M L r)
    (h0 : ∀ M v, ¬ (dAct s m t).1 = true → ¬ (0 : Int32) ≤ v → XIp s m0 m us kp mk row tx M → DF M I → M 25 4 = nI cm → Q v M L r) : rt_Call G (d + 5) kX0_runAct [.ref 25, .ref 20, .int t.1, .int t.2.1, .int t.2.2] I L r Q := by
  obtain ⟨hkk, a, b, ha, hb, ea, eb, -⟩ := ht
  have gen : ∀ (rr : Int32 × MO), dAct s m t = dRes rr → (rr.1 < 0 → rr.2 = m) → ∀ M, CF M I → XMo s rr.2 M 16 → Q rr.1 M L r := by
    intro rr e hneg M hC hMo
    have e25 : M 25 4 = nI cm := by rw [hC.1 25 (by decide)]; exact h25
    rcases sgn_cases rr.1 with z | z
    · refine h0 M _ (by rw [e, dRes_f z]; decide) (fun y => absurd z (Int32.not_lt.mpr y)) (h.c hC ?_) hC.D e25
      rw [hneg z] at hMo
      exact hMo
    · refine h1 M _ (by rw [e]; exact dRes_t z) (Int32.not_lt.mp z) ?_ hC.D ?_
      · rw [e]; exact h.c hC hMo
      · rw [e]; exact e25
  have hnc := hk.2.2.1
  refine v_X0_runAct _ _ _ _ _ _ ⟨fun z => ?_, fun z1 => ⟨fun z => ?_, fun z2 => ⟨fun z => ?_, fun z3 => ⟨fun z => ?_, fun z4 => ?_⟩⟩⟩⟩
  · exact wX9_turnRound h.1 hk h.2.1 hm (gen _ (dAct_b z) (fun y => by rw [aRound_not y]))
  · refine sX2_hasCart h.1.2.2.1 (fun y => ⟨fun x => absurd x (by decide), fun _ => ?_⟩) (fun y => ⟨fun _ => ?_, fun x => absurd rfl x⟩)
    · obtain ⟨c, hc, e⟩ := (inr_iff (by omega)).mp y
      rw [e]
      refine sX4_of (c := c) (j := 5) rfl rfl (by omega) ?_
      rw [xm_c hk h.2.1 hc (by omega)]
      have e2 : dAct s m t = dRes (aChain s m (nI c) (1 - m (c * 8 + 5))) := by
        rw [dAct_c z]; unfold dChain; rw [e, cc_nI (by omega)]
      exact wX9_putChain h.1 hk h.2.1 (gen _ e2 (fun y => by rw [(aChain_not hk hm y).1]))
    · have e2 : dAct s m t = dRes (-1, m) := by
        rw [dAct_c z]; unfold dChain aChain; rw [if_neg (mt inb_iff.mp y)]
      exact gen _ e2 (fun _ => rfl) I (CF.refl I) h.2.1
  · exact wX9_setOut h.1 hk h.2.1 hm (gen _ (dAct_o z) aOut_not)
  · refine wX9_goBy (n := a) h.1 hk h.2.1 hm (by omega) ea (fun M hG hMo _ _ => ?_)
    have hM25 : M 25 = I 25 := hG.1 25 (by decide)
    rw [h25, nI_add]
    refine h1 _ _ (by rw [dAct_t z]) (by decide) ?_ ⟨(hG.1.mono (by decide)).u (by decide), fun j hj => by rw [rt_u1 hj, hM25]⟩ ?_
    · rw [dAct_t z, ea, cc_nI (by omega)]
      exact (h.c hG.C hMo).d25
    · rw [rt_u_at, dAct_t z, ea, cc_nI (by omega)]
  · have e : t.1 = 108 := by
      rcases hkk with e | e | e | e | e
      · exact absurd e z3
      · exact absurd e z4
      · exact absurd e z1
      · exact absurd e z2
      · exact e
    exact wX9_putLoad h.1 hk h.2.1 (gen _ (dAct_l e) (fun y => by rw [(aLoad_not hk hm y).1]))
theorem sX0_run {A : Nat → T3} {k : Nat} (hkk : k < 60) (hk : sok s) (hA : ∀ j, j < k → tok3 (A j)) : ∀ (F i : Nat) (m : MO) (cm B : Nat) (I : rt_I), i + F = k → XIp s m0 m us kp mk row tx I → mok s B m → B + 99 * F < 2 ^ 29 → I 25 3 = nI k → I 25 4 = nI cm → (∀ j, j < k → I 26 j = (A j).1 ∧ I 27 j = (A j).2.1 ∧ I 28 j = (A j).2.2) →
    (∀ M, XIp s m0 (dRun s A F i m cm).2.1 us kp mk row tx M → DF M I → M 25 4 = nI (dRun s A F i m cm).2.2 → Q (nI (dRun s A F i m cm).1) M L r) →
    rt_AW G (d + 6) kX0_runOn Q 7 [some (.ref 25), some (.ref 20), some (.int (nI i))] [] I L r := by
  intro F
  induction F with
  | zero =>
    intro i m cm B I hi h hm hB h3 h4 hT hQ
    refine v_X0_runOn_7 _ _ _ _ ⟨fun _ => ?_, fun z => absurd ?_ z⟩
    · rw [h3, show k = i from by omega]
      exact hQ I h ⟨Fr.refl _ _, fun _ _ => rfl⟩ h4
    · rw [h3, show k = i from by omega]; exact Int32.le_refl _
  | succ F ih =>
    intro i m cm B I hi h hm hB h3 h4 hT hQ
    refine v_X0_runOn_7 _ _ _ _ ⟨fun z => ?_, fun _ => ?_⟩
    · have := (n_le (a := k) (b := i) h3 rfl (by omega) (by omega)).mp z
      omega
    simp (disch := omega) only [vpT, clT, true_and]
    obtain ⟨t1, t2, t3⟩ := hT i (by omega)
    rw [t1, t2, t3]
    rw [dRun_s] at hQ
    refine sX0_runAct (hA i (by omega)) h hk hm (by omega) h4 (fun M v ha hv hX hD h25 => ⟨fun _ => ?_, fun z => absurd hv z⟩) (fun M v ha hv hX hD h25 => ⟨fun z => absurd z hv, fun _ => ?_⟩)
    · rw [if_pos ha] at hQ
      rw [nI_1]
      refine ih (i + 1) _ _ (B + 99) M (by omega) hX (dAct_ok hk hm (hA i (by omega))) (by omega) ((hD.2 3 (by decide)).trans h3) h25 (fun j hj => ?_) (fun M' x1 x2 x3 => hQ M' x1 (x2.trans hD) x3)
      rw [hD.1 26 (by decide), hD.1 27 (by decide), hD.1 28 (by decide)]
      exact hT j hj
    · rw [if_neg ha] at hQ
      exact hQ M hX hD h25
theorem sX0_acts {J : rt_I} {l : Nat} (hc : c8 (ch (J 2) l)) (hl : J 1 3 = nI l) (h8 : l ≤ 60) : ∀ (F i p : Nat) (A : Nat → T3) (M : rt_I), XA A J M p i → (∀ j, j < i → tok3 (A j)) → p ≤ l → 61 ≤ p + F → 2 * i ≤ p →
    (∀ M' q k A', actsF (ch (J 2) l) F i p A = (q, some (k, A')) → XA A' J M' q k → (∀ j, j < k → tok3 (A' j)) → q ≤ l → k < 60 → Q (nI k) M' L r) →
    (∀ M' q, actsF (ch (J 2) l) F i p A = (q, none) → Fr M' J [1, 25, 26, 27, 28] → M' 1 2 = nI q → q ≤ l → Q (-1) M' L r) →
    rt_AW G (d + 4) kX0_readActs Q 14 [some (.ref 25), some (.ref 1), none] [] M L r := by
  intro F
  induction F with
  | zero => intro i p A M _ _ _ _ _; omega
  | succ F ih =>
    intro i p A M hX hA hp hF hip hQ1 hQ0
    have e25 := hX.2.2.2.1
    rw [actsF_s] at hQ1 hQ0
    refine v_X0_readActs_14 _ _ _ ⟨fun z => ?_, fun _ => sX0_readAct hX (by omega) hl h8 hp (fun M' q t hq hX' w1 w2 w3 => ⟨fun _ => ?_, fun z => absurd z (by decide)⟩) (fun M' q hq hX' => ⟨fun z => absurd rfl z, fun _ => ?_⟩)⟩
    · have := (n_le (a := 60) (b := i) rfl e25 (by omega) (by omega)).mp z
      omega
    · obtain ⟨q1, q2, q3, q4⟩ := actF_all hc hp hq
      have q5 := q3 (by simp)
      have ht := q4 t rfl
      rw [hq] at hQ1 hQ0
      dsimp only at hQ1 hQ0
      rw [hX'.2.2.2.1, nI_1]
      have hY := hX'.done w1 w2 w3
      have e2' : (rt_u M' 25 3 (nI (i + 1))) 2 = J 2 := hY.1 2 (by decide)
      have hA' : ∀ j, j < i + 1 → tok3 (updT A i t j) := fun j hj => by
        by_cases e : j = i
        · subst e; rw [updT_0]; exact ht
        · rw [updT_1 e]; exact hA j (by omega)
      refine tX7_behindLine (p := q) (l := l) hY.2.1 ((hY.2.2.1 3 (by decide)).trans hl) (by omega) (by omega) (fun y => ⟨fun _ => ?_, fun z => absurd rfl z⟩) (fun y => ⟨fun z => absurd z (by decide), fun _ => ⟨fun z => absurd rfl z, fun _ => ?_⟩⟩) (fun y1 y2 => ⟨fun z => absurd z (by decide), fun _ => ⟨fun _ => ?_, fun z => absurd z (by decide)⟩⟩)
      · rw [e2'] at y
        have hlt := ch_in (f := J 2) (l := l) (p := q) (by rw [y]; decide)
        rw [if_pos y] at hQ1 hQ0
        exact ih (i + 1) (q + 1) _ _ hY.at hA' (by omega) (by omega) (by omega) hQ1 hQ0
      · rw [e2'] at y
        rw [if_neg (by rw [y]; decide), if_pos y] at hQ1
        rw [hY.2.2.2.1]
        exact hQ1 _ q (i + 1) _ rfl hY hA' q1 (by omega)
      · rw [e2'] at y1 y2
        rw [if_neg y1, if_neg y2] at hQ0
        exact hQ0 _ q rfl hY.1 hY.2.1 q1
    · obtain ⟨q1, -, -, -⟩ := actF_all hc hp hq
      rw [hq] at hQ0
      exact hQ0 M' q rfl hX'.1 hX'.2.1 q1
theorem XI.dd {M : rt_I} (h : XI s m us kp mk row tx I) (hf : Fr M I [1, 25, 26, 27, 28]) (h1 : M 1 1 = 0) : XI s m us kp mk row (0, tx.2) M := by
  obtain ⟨a1, a2, a3, a4, a5, a6, a7⟩ := h
  exact ⟨a1.fr ⟨by rw [hf 12 (by decide)], by rw [hf 12 (by decide)]⟩ (by rw [hf 16 (by decide)]) (by rw [hf 3 (by decide)]) (hf 4 (by decide)) (hf 13 (by decide)) (hf 14 (by decide)) (hf 15 (by decide)) (by rw [hf 6 (by decide)]) (hf 7 (by decide)) (by rw [hf 20 (by decide)]),
    a2.fr (by rw [hf 16 (by decide)]) (hf 17 (by decide)) (hf 18 (by decide)) (hf 19 (by decide)), a3.fr (hf 21 (by decide)) (fun c a b => hf c (fun z => by simp only [List.mem_cons, List.not_mem_nil, or_false] at z; omega)), a4.fr (hf 24 (by decide)) (fun c a b => hf c (fun z => by simp only [List.mem_cons, List.not_mem_nil, or_false] at z; omega)),
    a5.fr (by rw [hf 38 (by decide)]) (hf 39 (by decide)) (hf 40 (by decide)), a6.fr (by rw [hf 42 (by decide)]) (hf 43 (by decide)), h1, fun j hj => absurd hj (by omega)⟩
theorem fDay_f {q : Nat} (h : dRd tx = (q, none)) : fDay s m us row tx = (-1 - nI q, m, us, row) := by unfold fDay; rw [h]
theorem fDay_g {q k : Nat} {A : Nat → T3} (h : dRd tx = (q, some (k, A))) (h2 : ¬ q = tx.1) : fDay s m us row tx = (-1 - nI q, m, us, row) := by unfold fDay; rw [h]; dsimp only; rw [if_neg h2]
theorem fDay_t {q k : Nat} {A : Nat → T3} (h : dRd tx = (q, some (k, A))) (h2 : q = tx.1) : fDay s m us row tx = dOut m us k (dRun s A k 0 m 0) := by unfold fDay; rw [h]; dsimp only; rw [if_pos h2]
theorem dRun_le {A : Nat → T3} : ∀ (F i cm : Nat) (m : MO), i ≤ (dRun s A F i m cm).1 ∧ (dRun s A F i m cm).1 ≤ i + F := by
  intro F
  induction F with
  | zero => intro i cm m; exact ⟨Nat.le_refl _, Nat.le_refl _⟩
  | succ F ih =>
    intro i cm m
    rw [dRun_s]
    split
    · have := ih (i + 1) (cm + (dAct s m (A i)).2.2) (dAct s m (A i)).2.1
      omega
    · exact ⟨Nat.le_refl _, by show i ≤ i + (F + 1); omega⟩
theorem dRun_z {A : Nat → T3} {F : Nat} (h : (dRun s A F 0 m 0).1 = 0) : (dRun s A F 0 m 0).2.1 = m := by
  cases F with
  | zero => rfl
  | succ F =>
    rw [dRun_s] at h ⊢
    split at h
    · rename_i z
      have := (dRun_le (s := s) (A := A) F (0 + 1) (0 + (dAct s m (A 0)).2.2) (dAct s m (A 0)).2.1).1
      omega
    · rename_i z
      rw [if_neg z]
end
