/-! MARKS: the rounds that fit, class -/
def hvN (t p h o : Nat) : Nat := cc (hgt (nI t) (nI p) (nI h) (nI o))
theorem hgt_ex {t p h o : Nat} (ht : t < 2 ^ 30) (hp1 : 2 ≤ p) (hp : p ≤ 24) (hh : h ≤ 40) (ho : o < p) : hvN t p h o ≤ 40 ∧ hgt (nI t) (nI p) (nI h) (nI o) = nI (hvN t p h o) := by
  have key : ∃ v, v ≤ 40 ∧ hgt (nI t) (nI p) (nI h) (nI o) = nI v := by
    have hx : rt_rem (nI t + nI o) (nI p) = nI ((t + o) % p) := by rw [nI_add]; exact rem_nI (by omega) (by omega) (by omega)
    have hm : (t + o) % p < p := Nat.mod_lt _ (by omega)
    unfold hgt
    rw [hx]
    generalize (t + o) % p = x at *
    have e2 : (2 : Int32) * nI x = nI (2 * x) := n_lm 2 x
    have e3 : nI p - nI x = nI (p - x) := pk_sub (by omega)
    have e4 : (2 : Int32) * nI (p - x) = nI (2 * (p - x)) := n_lm 2 (p - x)
    rw [e2, e3, e4]
    have bnd : ∀ a, a ≤ p → ∃ v, v ≤ 40 ∧ nI h * nI a / nI p = nI v := by
      intro a ha
      have hle : h * a ≤ 40 * p := Nat.mul_le_mul hh ha
      refine ⟨h * a / p, ?_, ?_⟩
      · exact Nat.le_trans (Nat.div_le_div_right hle) (by rw [Nat.mul_div_cancel _ (by omega)]; omega)
      · rw [show nI h * nI a = nI (h * a) from pk_mul h a]
        exact pk_div (by omega) (by omega) (by omega)
    have hlt : nI p < nI (2 * x) ↔ p < 2 * x := nI_ltI (by omega) (by omega)
    by_cases q : p < 2 * x
    · rw [if_pos (hlt.mpr q)]
      exact bnd (2 * (p - x)) (by omega)
    · rw [if_neg (mt hlt.mp q)]
      exact bnd (2 * x) (by omega)
  obtain ⟨v, h1, h2⟩ := key
  have : hvN t p h o = v := by unfold hvN; rw [h2]; exact cc_nI (by omega)
  rw [this]
  exact ⟨h1, h2⟩
def su (mk : MKT) (e : Int32) (p h o : Nat) : Bool := allb (fun i => decide (rt_abs (hgt (mk.2.1 i) (nI p) (nI h) (nI o) - mk.2.2 i) ≤ e)) mk.1
def stq (mk : MKT) (e : Int32) (fr lk p h o : Nat) (st : Nat × (Nat × Nat × Nat) × (Nat → Nat → Bool)) : Nat × (Nat × Nat × Nat) × (Nat → Nat → Bool) :=
  if su mk e p h o = true then (st.1 + 1, if st.1 = 0 then (p, h, o) else st.2.1, fun k v => st.2.2 k v || (decide (k < lk) && decide (v = hvN (fr + k) p h o))) else st
def srO (mk : MKT) (e : Int32) (fr lk p h k : Nat) (st : Nat × (Nat × Nat × Nat) × (Nat → Nat → Bool)) : Nat × (Nat × Nat × Nat) × (Nat → Nat → Bool) := fdN (fun o st => stq mk e fr lk p h o st) k st
def srH (mk : MKT) (e : Int32) (fr lk p k : Nat) (st : Nat × (Nat × Nat × Nat) × (Nat → Nat → Bool)) : Nat × (Nat × Nat × Nat) × (Nat → Nat → Bool) := fdN (fun h st => srO mk e fr lk p h p st) k st
def srP (mk : MKT) (e : Int32) (fr lk k : Nat) (st : Nat × (Nat × Nat × Nat) × (Nat → Nat → Bool)) : Nat × (Nat × Nat × Nat) × (Nat → Nat → Bool) := fdN (fun i st => srH mk e fr lk (i + 2) 41 st) k st
def srch (mk : MKT) (e : Int32) (fr lk : Nat) : Nat × (Nat × Nat × Nat) × (Nat → Nat → Bool) := srP mk e fr lk 23 (0, (0, 0, 0), fun _ _ => false)
theorem fdN_s {α : Type} {f : Nat → α → α} {k : Nat} {b : α} : fdN f (k + 1) b = f k (fdN f k b) := rfl
theorem srO_s (mk : MKT) (e : Int32) (fr lk p h o : Nat) (st : Nat × (Nat × Nat × Nat) × (Nat → Nat → Bool)) : srO mk e fr lk p h (o + 1) st = stq mk e fr lk p h o (srO mk e fr lk p h o st) := by unfold srO; exact fdN_s
theorem srH_s (mk : MKT) (e : Int32) (fr lk p h : Nat) (st : Nat × (Nat × Nat × Nat) × (Nat → Nat → Bool)) : srH mk e fr lk p (h + 1) st = srO mk e fr lk p h p (srH mk e fr lk p h st) := by unfold srH; exact fdN_s
theorem srP_s (mk : MKT) (e : Int32) (fr lk i : Nat) (st : Nat × (Nat × Nat × Nat) × (Nat → Nat → Bool)) : srP mk e fr lk (i + 1) st = srH mk e fr lk (i + 2) 41 (srP mk e fr lk i st) := by unfold srP; exact fdN_s
theorem srO_0 (mk : MKT) (e : Int32) (fr lk p h : Nat) (st : Nat × (Nat × Nat × Nat) × (Nat → Nat → Bool)) : srO mk e fr lk p h 0 st = st := by unfold srO; rfl
theorem srH_0 (mk : MKT) (e : Int32) (fr lk p : Nat) (st : Nat × (Nat × Nat × Nat) × (Nat → Nat → Bool)) : srH mk e fr lk p 0 st = st := by unfold srH; rfl
theorem srP_0 (mk : MKT) (e : Int32) (fr lk : Nat) (st : Nat × (Nat × Nat × Nat) × (Nat → Nat → Bool)) : srP mk e fr lk 0 st = st := by unfold srP; rfl
theorem nL_b0 : nL (btn (fun _ => false) 41) = 0 := by rw [btn_false]; rfl
theorem sh64 : ∀ v : Fin 41, (1 : Int64) <<< ((nI v.val).toInt64 &&& 63) = nL (2 ^ v.val) := by decide +kernel
theorem btn_or {b : Nat → Bool} {n j : Nat} (hj : j < n) : btn b n ||| 2 ^ j = btn (fun v => b v || decide (v = j)) n := by
  apply Nat.eq_of_testBit_eq
  intro i
  rw [tb_set, btn_bit, btn_bit]
  by_cases e : i = j
  · subst e; simp [hj]
  · simp [e]
section
variable {G : rt_G} {d : Nat} {Q : rt_Q} {I : rt_I} {L : rt_L} {r B mg : Nat} {s : SV} {m : MO} {mk : MKT}
theorem wX3_suits {e : Int32} {p h o : Nat} {x2 x3 x4 : Int32} (hM : XMk mk I) (h10 : mk.1 ≤ 10) (hp : 0 < p) (hp2 : p < 1000) (h2 : x2 = nI p) (h3 : x3 = nI h) (h4 : x4 = nI o) (hy : su mk e p h o = true → Q 1 I L r) (hn : ¬ su mk e p h o = true → Q 0 I L r) : rt_Call G (d + 1) kX3_suits [.ref 38, .int e, .int x2, .int x3, .int x4] I L r Q := by
  subst h2 h3 h4
  obtain ⟨m1, m2, m3⟩ := hM
  have hp0 : 0 < nI p := (nI_ltI (a := 0) (by omega) (by omega)).mpr hp
  refine v_X3_suits _ _ _ _ _ _ _ (rt_loop (P := fun k => allb (fun i => decide (rt_abs (hgt (mk.2.1 i) (nI p) (nI h) (nI o) - mk.2.2 i) ≤ e)) k = true → rt_AW G (d + 1) kX3_suits Q 3 [some (.ref 38), some (.int e), some (.int (nI p)), some (.int (nI h)), some (.int (nI o)), some (.int (nI k))] [] I L r) mk.1 ?_ ?_ rfl)
  · intro hh
    exact v_X3_suits_3 _ _ _ _ _ _ _ _ ⟨fun _ => hy hh, fun z => absurd (by rw [m1]; exact Int32.le_refl _) z⟩
  · intro k hk ih hh
    refine v_X3_suits_3 _ _ _ _ _ _ _ _ ⟨fun z => absurd ((n_le m1 rfl (by omega) (by omega)).mp z) (by omega), fun _ => ⟨vp_nI rfl (by omega) (by omega), sX8_ofRound hp0 ⟨vp_nI rfl (by omega) (by omega), ?_⟩⟩⟩
    rw [cl (n := k) rfl (by omega), m2 k hk, m3 k hk, nI_1]
    have e1 : allb (fun i => decide (rt_abs (hgt (mk.2.1 i) (nI p) (nI h) (nI o) - mk.2.2 i) ≤ e)) (k + 1) = (allb (fun i => decide (rt_abs (hgt (mk.2.1 i) (nI p) (nI h) (nI o) - mk.2.2 i) ≤ e)) k && decide (rt_abs (hgt (mk.2.1 k) (nI p) (nI h) (nI o) - mk.2.2 k) ≤ e)) := rfl
    refine ⟨fun z => ih (by rw [e1, hh]; simpa using z), fun z => hn (fun a => z ?_)⟩
    have := allb_iff.mp a k hk
    simpa using this
/-- what the class notes -/
def SX (st : Nat × (Nat × Nat × Nat) × (Nat → Nat → Bool)) (M : rt_I) (L : rt_L) : Prop := (¬ st.1 = 0 → M 38 4 = nI st.2.1.1 ∧ M 38 5 = nI st.2.1.2.1 ∧ M 38 6 = nI st.2.1.2.2) ∧ ∀ k, k < 24 → L 41 k = nL (btn (st.2.2 k) 41)
def F38 (M I : rt_I) : Prop := Fr M I [38] ∧ M 38 2 = I 38 2
theorem F38.M {M : rt_I} (h : F38 M I) (hM : XMk mk I) : XMk mk M := by
  unfold XMk
  rw [h.2, h.1 39 (by decide), h.1 40 (by decide)]
  exact hM
theorem wX3_search {e : Int32} {fr lk : Nat} {x2 x3 : Int32} (hM : XMk mk I) (h10 : mk.1 ≤ 10) (hfr : fr < 2 ^ 29) (hlk : lk ≤ 24) (h2 : x2 = nI fr) (h3 : x3 = nI lk)
    (hQ : ∀ M L', F38 M I → SX (srch mk e fr lk) M L' → (srch mk e fr lk).1 < 100000 → Q (nI (srch mk e fr lk).1) M L' r) : rt_Call G (d + 2) kX3_search [.ref 38, .int e, .int x2, .int x3] I L r Q := by
  subst h2 h3
  unfold srch at hQ
  refine v_X3_search _ _ _ _ _ _ (v_J7_fill_d0a16_seen _ _ _ _ (rt_loop (P := fun k => ∀ L', (∀ j, j < k → L' 41 j = 0) → rt_AW G (d + 1) kJ7_fill_d0a16 _ 6 [some (.ref 41), some (.long 0), none, some (.int (nI k)), some (.int 24)] [] I L' r) 24 ?_ ?_ L (fun j hj => absurd hj (Nat.not_lt_zero _))))
  · intro L' hz
    refine v_J7_fill_d0a16_seen_6 _ _ _ _ _ _ ⟨fun _ => ?_, fun z => absurd (by decide) z⟩
    refine rt_loop (P := fun i => ∀ M L', F38 M I → SX (srP mk e fr lk i (0, (0, 0, 0), fun _ _ => false)) M L' → (srP mk e fr lk i (0, (0, 0, 0), fun _ _ => false)).1 ≤ 1025 * i → rt_AW G (d + 2) kX3_search Q 14 [some (.ref 38), some (.int e), some (.int (nI fr)), some (.int (nI lk)), some (.int (nI (srP mk e fr lk i (0, (0, 0, 0), fun _ _ => false)).1)), some (.int (nI (i + 2))), none, none, none] [] M L' r) 23 ?_ ?_ I L' ⟨Fr.refl _ _, rfl⟩ (by rw [srP_0]; exact ⟨fun a => absurd rfl a, fun k hk => by rw [hz k hk]; exact nL_b0.symm⟩) (by rw [srP_0]; exact Nat.zero_le _)
    · intro M L' hF hS hb
      exact v_X3_search_14 _ _ _ _ _ _ _ _ ⟨fun _ => hQ M L' hF hS (by omega), fun z => absurd (by decide) z⟩
    · intro i hi ihP M L' hF hS hb
      have eP := srP_s mk e fr lk i (0, (0, 0, 0), fun _ _ => false)
      rw [eP] at ihP
      generalize srP mk e fr lk i (0, (0, 0, 0), fun _ _ => false) = sP at *
      refine v_X3_search_14 _ _ _ _ _ _ _ _ ⟨fun z => absurd ((n_lt (a := 24) (b := i + 2) rfl rfl (by omega) (by omega)).mp z) (by omega), fun _ => ?_⟩
      refine rt_loop (P := fun h => ∀ M L', F38 M I → SX (srH mk e fr lk (i + 2) h sP) M L' → (srH mk e fr lk (i + 2) h sP).1 ≤ 1025 * i + 25 * h → rt_AW G (d + 2) kX3_search Q 24 [some (.ref 38), some (.int e), some (.int (nI fr)), some (.int (nI lk)), some (.int (nI (srH mk e fr lk (i + 2) h sP).1)), some (.int (nI (i + 2))), some (.int (nI h)), none, none] [] M L' r) 41 ?_ ?_ M L' hF (by rw [srH_0]; exact hS) (by rw [srH_0]; omega)
      · intro M L' hF hS hb
        refine v_X3_search_24 _ _ _ _ _ _ _ _ _ ⟨fun _ => ?_, fun z => absurd (by decide) z⟩
        rw [nI_1]
        exact ihP M L' hF hS (by omega)
      · intro h hh ihH M L' hF hS hb
        have eH := srH_s mk e fr lk (i + 2) h sP
        rw [eH] at ihH
        generalize srH mk e fr lk (i + 2) h sP = sH at *
        refine v_X3_search_24 _ _ _ _ _ _ _ _ _ ⟨fun z => absurd ((n_lt (a := 40) (b := h) rfl rfl (by omega) (by omega)).mp z) (by omega), fun _ => ?_⟩
        suffices hh : rt_AW G (d + 2) kX3_search Q 34 [some (.ref 38), some (.int e), some (.int (nI fr)), some (.int (nI lk)), some (.int (nI (srO mk e fr lk (i + 2) h 0 sH).1)), some (.int (nI (i + 2))), some (.int (nI h)), some (.int (nI 0)), none] [] M L' r by
          rw [srO_0] at hh
          exact hh
        refine rt_loop (P := fun o => ∀ M L', F38 M I → SX (srO mk e fr lk (i + 2) h o sH) M L' → (srO mk e fr lk (i + 2) h o sH).1 ≤ 1025 * i + 25 * h + o → rt_AW G (d + 2) kX3_search Q 34 [some (.ref 38), some (.int e), some (.int (nI fr)), some (.int (nI lk)), some (.int (nI (srO mk e fr lk (i + 2) h o sH).1)), some (.int (nI (i + 2))), some (.int (nI h)), some (.int (nI o)), none] [] M L' r) (i + 2) ?_ ?_ M L' hF (by rw [srO_0]; exact hS) (by rw [srO_0]; omega)
        · intro M L' hF hS hb
          refine v_X3_search_34 _ _ _ _ _ _ _ _ _ _ ⟨fun _ => ?_, fun z => absurd (Int32.le_refl _) z⟩
          rw [nI_1]
          exact ihH M L' hF hS (by omega)
        · intro o ho ihO M L' hF hS hb
          have eO := srO_s mk e fr lk (i + 2) h o sH
          rw [eO] at ihO
          generalize srO mk e fr lk (i + 2) h o sH = st at *
          refine v_X3_search_34 _ _ _ _ _ _ _ _ _ _ ⟨fun z => absurd ((n_le (a := i + 2) (b := o) rfl rfl (by omega) (by omega)).mp z) (by omega), fun _ => wX3_suits (hF.M hM) h10 (by omega) (by omega) rfl rfl rfl (fun q => ⟨fun _ => ?_, fun y => absurd y (by decide)⟩) (fun q => ⟨fun y => absurd rfl y, fun _ => ?_⟩)⟩
          · have eS : stq mk e fr lk (i + 2) h o st = (st.1 + 1, if st.1 = 0 then (i + 2, h, o) else st.2.1, fun k v => st.2.2 k v || (decide (k < lk) && decide (v = hvN (fr + k) (i + 2) h o))) := by unfold stq; rw [if_pos q]
            rw [eS] at ihO
            have looks : ∀ M, F38 M I → (M 38 4 = nI (if st.1 = 0 then (i + 2, h, o) else st.2.1).1 ∧ M 38 5 = nI (if st.1 = 0 then (i + 2, h, o) else st.2.1).2.1 ∧ M 38 6 = nI (if st.1 = 0 then (i + 2, h, o) else st.2.1).2.2) → rt_AW G (d + 2) kX3_search Q 87 [some (.ref 38), some (.int e), some (.int (nI fr)), some (.int (nI lk)), some (.int (nI (st.1 + 1))), some (.int (nI (i + 2))), some (.int (nI h)), some (.int (nI o)), some (.int 0)] [] M L' r := by
              intro M hF hle
              refine rt_loop (P := fun k => ∀ L', (∀ j, j < 24 → L' 41 j = nL (btn (fun v => st.2.2 j v || (decide (j < k) && decide (v = hvN (fr + j) (i + 2) h o))) 41)) → rt_AW G (d + 2) kX3_search Q 87 [some (.ref 38), some (.int e), some (.int (nI fr)), some (.int (nI lk)), some (.int (nI (st.1 + 1))), some (.int (nI (i + 2))), some (.int (nI h)), some (.int (nI o)), some (.int (nI k))] [] M L' r) lk ?_ ?_ L' (fun j hj => by rw [hS.2 j hj]; congr 2; funext v; simp)
              · intro L' hL
                refine v_X3_search_87 _ _ _ _ _ _ _ _ _ _ _ ⟨fun _ => ?_, fun z => absurd (Int32.le_refl _) z⟩
                rw [nI_1]
                exact ihO M L' hF ⟨fun _ => hle, hL⟩ (by dsimp only; omega)
              · intro k hk ihK L' hL
                obtain ⟨v1, v2⟩ := hgt_ex (t := fr + k) (p := i + 2) (h := h) (o := o) (by omega) (by omega) (by omega) (by omega) ho
                refine v_X3_search_87 _ _ _ _ _ _ _ _ _ _ _ ⟨fun z => absurd ((n_le (a := lk) (b := k) rfl rfl (by omega) (by omega)).mp z) (by omega), fun _ => ⟨fun z => absurd ((n_le (a := 24) (b := k) rfl rfl (by omega) (by omega)).mp z) (by omega), fun _ => ⟨vp_nI rfl (by omega) (by omega), sX8_ofRound ((nI_ltI (a := 0) (by omega) (by omega)).mpr (by omega)) ⟨vp_nI rfl (by omega) (by omega), ?_⟩⟩⟩⟩
                rw [nI_add, v2, nI_1, cl (n := k) rfl (by omega), show (1 : Int64) <<< ((nI (hvN (fr + k) (i + 2) h o)).toInt64 &&& 63) = nL (2 ^ hvN (fr + k) (i + 2) h o) from sh64 ⟨hvN (fr + k) (i + 2) h o, by omega⟩, hL k (by omega), nL_or, btn_or (by omega)]
                refine ihK _ (fun j hj => ?_)
                rw [rt_uL_eq]
                unfold vp_updL
                by_cases q : j = k
                · subst q
                  rw [if_pos rfl]
                  congr 2
                  funext v
                  simp
                · rw [if_neg q, hL j hj]
                  congr 2
                  funext v
                  rw [show decide (j < k + 1) = decide (j < k) from decide_eq_decide.mpr (by omega)]
            have hz : nI st.1 = 0 ↔ st.1 = 0 := nI_eq (b := 0) (by omega) (by omega)
            refine ⟨fun z => ?_, fun z => ?_⟩
            · have hz2 := mt hz.mpr z
              rw [nI_1]
              refine looks M hF ?_
              rw [if_neg hz2]
              exact hS.1 hz2
            · have hz2 := hz.mp z
              rw [nI_1]
              refine looks _ ⟨(((Fr.refl _ _).u (by decide)).u (by decide)).u (by decide) |>.trans hF.1, ?_⟩ ?_
              · rw [rt_u1 (by decide), rt_u1 (by decide), rt_u1 (by decide)]; exact hF.2
              · rw [if_pos hz2]
                exact ⟨by rw [rt_u1 (by decide), rt_u1 (by decide)]; exact rt_u_at, by rw [rt_u1 (by decide)]; exact rt_u_at, rt_u_at⟩
          · have eS : stq mk e fr lk (i + 2) h o st = st := by unfold stq; rw [if_neg q]
            rw [eS] at ihO
            rw [nI_1]
            exact ihO M L' hF hS (by omega)
  · intro k hk ih L' hz
    refine v_J7_fill_d0a16_seen_6 _ _ _ _ _ _ ⟨fun z => absurd ((n_le (a := 24) (b := k) rfl rfl (by omega) (by omega)).mp z) (by omega), fun _ => ⟨vp_nI rfl (by omega) (by omega), ?_⟩⟩
    rw [nI_1, cl (n := k) rfl (by omega)]
    refine ih _ (fun j hj => ?_)
    rw [rt_uL_eq]
    unfold vp_updL
    by_cases q : j = k
    · rw [if_pos q]
    · rw [if_neg q]; exact hz j (by omega)
end
