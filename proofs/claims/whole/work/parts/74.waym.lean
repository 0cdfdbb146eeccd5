/-! THE FACE: the model's way; soonest, safe -/
/-- how many places are not shut -/
def uns (sh : Nat) : Nat := cb (fun q => !sh.testBit q) 8
theorem uns_or {sh q : Nat} (hq : q < 8) (h : sh.testBit q = false) : uns (sh ||| 2 ^ q) < uns sh := by
  refine cb_lt (q := q) hq (fun k _ hk => ?_) ?_ ?_
  · rw [tb_set, Bool.not_or, Bool.and_eq_true] at hk
    exact hk.1
  · rw [tb_set]; simp
  · rw [h]; rfl
theorem uns_set {sh q : Nat} (hq : q < 8) (h : sh.testBit q = true) : uns sh < 8 := by
  have h1 : cb (fun q => !sh.testBit q) 8 < cb (fun _ => true) 8 := cb_lt (q := q) hq (fun _ _ _ => rfl) (by rw [h]; rfl) rfl
  exact h1
/-- whether one gets on by a way v, into which one goes at t -/
noncomputable def nx (s : SV) (m : MO) (mg sh b x p t v : Nat) : Bool := decide (nfr m v = p) && (!sh.testBit (ntt m v) && (allb (fun j => tht s m (v / 2) (t + j)) (ntl s m v + mg) && decide (Ds s m mg (sh ||| 2 ^ (ntt m v)) (ntt m v) (t + ntl s m v) x ≤ b)))
section
variable {G : rt_G} {d : Nat} {Q : rt_Q} {I : rt_I} {L : rt_L} {r B mg : Nat} {s : SV} {m : MO} {us : List MO} {kp : Nat → Option MO} {mk : MKT} {row : List Int32} {tx : TXT}
theorem wX12_canCome {x b : Nat} (hk : sok s) (hm : mok s B m) (hmg : mg ≤ 20) (hx : x < s.np) (hb : b ≤ 120) : ∀ g e p t sh (I : rt_I) (r : Nat) (Q : rt_Q) (x1 x2 x3 x4 x5 : Int32), g ≤ e → uns sh < g → p < s.np → t ≤ FR → sh < 256 → sh.testBit p = true → MZ s I → MMo s m (I 109) → x1 = nI p → x2 = nI x → x3 = nI t → x4 = nI b → x5 = nI sh →
    (∀ M r', Mq M I → Q (b2i (decide (Ds s m mg sh p t x ≤ b))) M L r') → rt_Call G (e + 133) kX12_canCome [.ref 108, .int x1, .int x2, .int x3, .int x4, .int x5, .int (nI mg)] I L r Q := by
  have h12 := hk.2.1
  have h8 := hk.1
  have hFR : FR = 1000000 := rfl
  intro g
  induction g with
  | zero =>
    intro e p t sh I r Q x1 x2 x3 x4 x5 _ h
    exact absurd h (Nat.not_lt_zero _)
  | succ g ih =>
    intro e p t sh I r Q x1 x2 x3 x4 x5 hge hun hp ht hsh hs hS hM e1 e2 e3 e4 e5 hQ
    obtain ⟨e, rfl⟩ : ∃ e', e = e' + 1 := ⟨e - 1, by omega⟩
    subst e1 e2 e3 e4 e5
    have hD := Ds_sp hk hm mg sh p ht
    refine v_X12_canCome _ _ _ _ _ _ _ _ _ ⟨fun ne => ?_, fun eq => ?_⟩
    · have hxp : x ≠ p := fun a => ne (by rw [a])
      have hfl := first_leg (mg := mg) hk hm ht hb hxp hs
      refine rt_loop (P := fun w => ∀ M r', Mq M I → (∀ v, v < 2 * s.nr → v / 2 < w → ¬ (nfr m v = p ∧ sh.testBit (ntt m v) = false ∧ nar s m mg v t ≤ b ∧ Ds s m mg (sh ||| 2 ^ (ntt m v)) (ntt m v) (nar s m mg v t) x ≤ b)) → rt_AW G (e + 1 + 133) kX12_canCome Q 20 [some (.ref 108), some (.int (nI p)), some (.int (nI x)), some (.int (nI t)), some (.int (nI b)), some (.int (nI sh)), some (.int (nI mg)), some (.int (nI w)), none, none] [] M L r') s.nr ?_ ?_ I r (Mq.refl I) (fun v _ h => by omega)
      · intro M r' hf hno
        have hS' := hf.S hS
        refine v_X12_canCome_20 _ _ _ _ _ _ _ _ _ _ ⟨fun _ => ?_, fun z => absurd (by rw [hS'.2.1]; exact Int32.le_refl _) z⟩
        have := hQ M r' hf
        rw [show decide (Ds s m mg sh p t x ≤ b) = false from decide_eq_false (fun a => by
          obtain ⟨v, hv, hr⟩ := hfl.mp a
          exact hno v hv (by omega) hr)] at this
        exact this
      · intro w hw ih2 M r' hf hno
        have hS' := hf.S hS
        have hM' := hf.M hM
        refine v_X12_canCome_20 _ _ _ _ _ _ _ _ _ _ ⟨fun z => absurd ((n_le hS'.2.1 rfl (by omega) (by omega)).mp z) (by omega), fun _ => wX12_beyond hM' hk rfl hw ?_⟩
        simp only [nI_1]
        rcases way_of hk hm hw (show p < 8 by omega) with ⟨f1, f2⟩ | ⟨v, v1, v2, v3, v4, v5⟩
        · rw [f1]
          refine ⟨fun _ => ih2 M r' hf (fun u hu hw2 hr => ?_), fun y => absurd rfl y⟩
          by_cases q : u / 2 = w
          · exact f2 u q hr.1
          · exact hno u hu (by omega) hr
        · have pl := net_pl hk hm v1
          have next : ∀ M r', Mq M I → ¬ (sh.testBit (ntt m v) = false ∧ nar s m mg v t ≤ b ∧ Ds s m mg (sh ||| 2 ^ (ntt m v)) (ntt m v) (nar s m mg v t) x ≤ b) → rt_AW G (e + 1 + 133) kX12_canCome Q 20 [some (.ref 108), some (.int (nI p)), some (.int (nI x)), some (.int (nI t)), some (.int (nI b)), some (.int (nI sh)), some (.int (nI mg)), some (.int (nI (w + 1))), none, none] [] M L r' := fun M r' hf hn => ih2 M r' hf (fun u hu hw2 hr => by
            by_cases q : u / 2 = w
            · rw [v5 u q hr.1] at hr
              exact hn hr.2
            · exact hno u hu (by omega) hr)
          rw [v4]
          refine ⟨fun y => absurd y (n_ne1 (by omega)), fun _ => sX12_has rfl hsh rfl (by omega) (fun hb1 => ⟨fun y => absurd y (by decide), fun _ => next M r' hf (fun a => by rw [hb1] at a; cases a.1)⟩) (fun hb0 => ⟨fun _ => ?_, fun y => absurd rfl y⟩)⟩
          rw [← v2, ← v3]
          refine wX12_soonestBy hS' hk hM' hm hmg v1 rfl rfl rfl rfl ht (fun M1 r1 hT => ?_)
          have hf1 := (hT.w hS').trans hf
          have hn2 := nar_FR (s := s) (m := m) (mg := mg) (t := t) v1
          rw [v2, v3]
          refine ⟨fun z => next M1 r1 hf1 (fun a => ?_), fun z => ?_⟩
          · have := (nI_ltI (by omega) (by omega)).mp z
            omega
          · have hle := mt (nI_ltI (a := b) (b := nar s m mg v t) (by omega) (by omega)).mpr z
            rw [or_nI (by omega)]
            have hu := uns_or (show ntt m v < 8 by omega) hb0
            refine ih e (ntt m v) (nar s m mg v t) (sh ||| 2 ^ (ntt m v)) M1 r1 _ _ _ _ _ _ (by omega) (by omega) pl.2 hn2 (or_lt hsh (by omega)) (by rw [tb_set]; simp) (hT.S hS') (by rw [hT.1 109 (by decide)]; exact hM') rfl rfl rfl rfl rfl (fun M2 r2 hf2 => ?_)
            have hf3 := hf2.trans hf1
            refine ⟨fun y => next M2 r2 hf3 (fun a => ?_), fun y => ?_⟩
            · have := b2i_z.mp y
              rw [decide_eq_false_iff_not] at this
              exact this a.2.2
            · have hd := b2i_t.mp y
              rw [decide_eq_true_eq] at hd
              have := hQ M2 r2 hf3
              rw [show decide (Ds s m mg sh p t x ≤ b) = true from decide_eq_true (hfl.mpr ⟨v, v1, v3, hb0, by omega, hd⟩)] at this
              exact this
    · have hpx := (nI_eq (by omega) (by omega)).mp eq
      have hQ' := hQ I r (Mq.refl I)
      rw [← hpx, hD.1] at hQ'
      refine ⟨fun z => ?_, fun z => ?_⟩
      · have := (nI_ltI (by omega) (by omega)).mp z
        rw [show decide (t ≤ b) = false from decide_eq_false (by omega)] at hQ'
        exact hQ'
      · have := mt (nI_ltI (a := b) (b := t) (by omega) (by omega)).mpr z
        rw [show decide (t ≤ b) = true from decide_eq_true (by omega)] at hQ'
        exact hQ'
theorem wX12_nextRoad {p t x b sh : Nat} {x1 x2 x3 x4 x5 : Int32} (hS : MZ s I) (hM : MMo s m (I 109)) (hk : sok s) (hm : mok s B m) (hmg : mg ≤ 20) (hp : p < s.np) (hx : x < s.np) (hb : b ≤ 120) (ht : t ≤ 120) (hsh : sh < 256) (hu : uns sh < 8) (h1 : x1 = nI p) (h2 : x2 = nI t) (h3 : x3 = nI x) (h4 : x4 = nI b) (h5 : x5 = nI sh)
    (hno : ∀ M r', Mq M I → (∀ v, v < 2 * s.nr → ¬ nx s m mg sh b x p t v = true) → Q (-1) M L r')
    (hyes : ∀ M r' v, Mq M I → v < 2 * s.nr → nx s m mg sh b x p t v = true → (∀ u, u < 2 * s.nr → u / 2 < v / 2 → ¬ nx s m mg sh b x p t u = true) → Q (nI (v / 2)) M L r') : rt_Call G (d + 142) kX12_nextRoad [.ref 108, .int x1, .int x2, .int x3, .int x4, .int x5, .int (nI mg)] I L r Q := by
  have h12 := hk.2.1
  have h8 := hk.1
  have hFR : FR = 1000000 := rfl
  subst h1 h2 h3 h4 h5
  refine v_X12_nextRoad _ _ _ _ _ _ _ _ _ (rt_loop (P := fun w => ∀ M r', Mq M I → (∀ v, v < 2 * s.nr → v / 2 < w → ¬ nx s m mg sh b x p t v = true) → rt_AW G (d + 142) kX12_nextRoad Q 3 [some (.ref 108), some (.int (nI p)), some (.int (nI t)), some (.int (nI x)), some (.int (nI b)), some (.int (nI sh)), some (.int (nI mg)), some (.int (nI w)), none, none] [] M L r') s.nr ?_ ?_ I r (Mq.refl I) (fun v _ h => by omega))
  · intro M r' hf hn
    have hS' := hf.S hS
    exact v_X12_nextRoad_3 _ _ _ _ _ _ _ _ _ _ ⟨fun _ => hno M r' hf (fun v hv => hn v hv (by omega)), fun z => absurd (by rw [hS'.2.1]; exact Int32.le_refl _) z⟩
  · intro w hw ih2 M r' hf hn
    have hS' := hf.S hS
    have hM' := hf.M hM
    refine v_X12_nextRoad_3 _ _ _ _ _ _ _ _ _ _ ⟨fun z => absurd ((n_le hS'.2.1 rfl (by omega) (by omega)).mp z) (by omega), fun _ => wX12_beyond hM' hk rfl hw ?_⟩
    simp only [nI_1]
    rcases way_of hk hm hw (show p < 8 by omega) with ⟨f1, f2⟩ | ⟨v, v1, v2, v3, v4, v5⟩
    · rw [f1]
      refine ⟨fun _ => ih2 M r' hf (fun u hu hw2 hr => ?_), fun y => absurd rfl y⟩
      by_cases q : u / 2 = w
      · unfold nx at hr
        rw [Bool.and_eq_true, decide_eq_true_eq] at hr
        exact f2 u q hr.1
      · exact hn u hu (by omega) hr
    · have pl := net_pl hk hm v1
      have next : ∀ M r', Mq M I → ¬ nx s m mg sh b x p t v = true → rt_AW G (d + 142) kX12_nextRoad Q 3 [some (.ref 108), some (.int (nI p)), some (.int (nI t)), some (.int (nI x)), some (.int (nI b)), some (.int (nI sh)), some (.int (nI mg)), some (.int (nI (w + 1))), none, none] [] M L r' := fun M r' hf hn2 => ih2 M r' hf (fun u hu hw2 hr => by
        by_cases q : u / 2 = w
        · rw [v5 u q (by unfold nx at hr; rw [Bool.and_eq_true, decide_eq_true_eq] at hr; exact hr.1)] at hr
          exact hn2 hr
        · exact hn u hu (by omega) hr)
      have hnx : nx s m mg sh b x p t v = (!sh.testBit (ntt m v) && (allb (fun j => tht s m (v / 2) (t + j)) (ntl s m v + mg) && decide (Ds s m mg (sh ||| 2 ^ (ntt m v)) (ntt m v) (t + ntl s m v) x ≤ b))) := by
        unfold nx
        rw [v3]
        simp
      obtain ⟨l1, l20, el⟩ := ntl_ex s m v
      rw [v4]
      refine ⟨fun y => absurd y (n_ne1 (by omega)), fun _ => sX12_has rfl hsh rfl (by omega) (fun hb1 => ⟨fun y => absurd y (by decide), fun _ => next M r' hf (fun a => by rw [hnx, hb1] at a; simp at a)⟩) (fun hb0 => ⟨fun _ => ?_, fun y => absurd rfl y⟩)⟩
      rw [← v2, ← v3]
      refine wX12_turnsOf hS' hk rfl (by omega) rfl pl.1 rfl pl.2 (fun M1 r1 hT => ?_)
      have hf1 := (hT.w hS').trans hf
      have hM1 := hf1.M hM
      rw [el, v3]
      refine sX12_canGo (hf1.S hS) hk hM1 hmg l20 rfl (by omega) rfl rfl (fun q => ⟨fun y => absurd y (by decide), fun _ => ?_⟩) (fun q => ⟨fun _ => ?_, fun y => absurd rfl y⟩)
      · rw [or_nI (by omega), nI_add]
        have hu2 := uns_or (show ntt m v < 8 by omega) hb0
        refine wX12_canCome (L := L) (G := G) hk hm hmg hx hb 8 (d + 8) (ntt m v) (t + ntl s m v) (sh ||| 2 ^ (ntt m v)) M1 r1 _ _ _ _ _ _ (by omega) (by omega) pl.2 (by omega) (or_lt hsh (by omega)) (by rw [tb_set]; simp) (hf1.S hS) hM1 rfl rfl rfl rfl rfl (fun M2 r2 hf2 => ?_)
        have hf3 := hf2.trans hf1
        rw [hb0, q] at hnx
        refine ⟨fun y => ?_, fun y => ?_⟩
        · rw [v2]
          refine next M2 r2 hf3 (fun a => ?_)
          rw [hnx, b2i_z.mp y] at a
          simp at a
        · refine hyes M2 r2 v hf3 v1 (by rw [hnx, b2i_t.mp y]; rfl) (fun u hu hlt => hn u hu (by omega))
      · rw [v2]
        refine next M1 r1 hf1 (fun a => ?_)
        rw [hnx] at a
        simp only [Bool.and_eq_true] at a
        exact q a.2.1
theorem wv_eq {v p : Nat} (hk : sok s) (hm : mok s B m) (hv : v < 2 * s.nr) (h : nfr m v = p) : wv m (v / 2) p = v := by
  obtain ⟨n1, n2, n3, n4⟩ := net_e m (v / 2)
  obtain ⟨p1, p2, p3, -⟩ := ends_ok hk hm (show v / 2 < s.nr by omega)
  unfold wv
  have : v = 2 * (v / 2) ∨ v = 2 * (v / 2) + 1 := by omega
  rcases this with q | q
  · rw [q, n1] at h
    rw [if_pos h]
    exact q.symm
  · rw [q, n3] at h
    rw [if_neg (fun a => p3 (a.trans h.symm))]
    exact q.symm
/-- the class's choice is where the model's comes to -/
theorem lw_nx {p t x b sh v0 t0 : Nat} (hk : sok s) (hm : mok s B m) (hb : b ≤ 120) (hw0 : v0 < 2 * s.nr) (ht0 : t ≤ t0) (h120 : t0 ≤ 120) (h0 : nx s m mg sh b x p t0 v0 = true) :
    (lwF s m mg sh b x p t s.nr).2 ≤ t0 ∧ ((lwF s m mg sh b x p t s.nr).2 = t0 → (lwF s m mg sh b x p t s.nr).1 / 2 ≤ v0 / 2) := by
  have hFR : FR = 1000000 := rfl
  unfold nx at h0
  simp only [Bool.and_eq_true, decide_eq_true_eq] at h0
  obtain ⟨a1, a2, a3, a4⟩ := h0
  obtain ⟨l1, l20, -⟩ := ntl_ex s m v0
  have hge := SPd.ge (nar_ok s m mg) (t := t0 + ntl s m v0) (by omega) (Ds_sp hk hm mg (sh ||| 2 ^ (ntt m v0)) (ntt m v0) (by omega)) x
  have hnok : nok s m mg v0 t0 = true := by
    unfold nok
    rw [Bool.and_eq_true, decide_eq_true_eq]
    exact ⟨by omega, a3⟩
  have hdl : dep (nok s m mg v0) t ≤ t0 := by
    rcases dep_spec (nok s m mg v0) t with ⟨c1, c2⟩ | ⟨c1, c2, c3, c4⟩
    · have := c2 t0 ht0 h120
      rw [hnok] at this; cases this
    · by_cases q : dep (nok s m mg v0) t ≤ t0
      · exact q
      · have := c4 t0 ht0 (by omega)
        rw [hnok] at this; cases this
  have hnar : nar s m mg v0 t = dep (nok s m mg v0) t + ntl s m v0 := by unfold nar arr; rw [if_neg (by omega)]
  have hm2 := Ds_mono (sh := sh) (q := ntt m v0) (mg := mg) hk hm (show nar s m mg v0 t ≤ t0 + ntl s m v0 by omega) (by omega) x
  rw [Ds_self hk hm (by omega)] at a4
  have hql : ql s m mg sh b x p t v0 = true := by
    unfold ql
    simp only [Bool.and_eq_true, decide_eq_true_eq]
    exact ⟨a1, a2, by omega, by omega⟩
  obtain ⟨-, g2⟩ := lwF_spec s m mg sh b x p t s.nr
  have := g2 (v0 / 2) (by omega) (by rw [wv_eq hk hm hw0 a1]; exact hql)
  rw [wv_eq hk hm hw0 a1] at this
  omega
theorem lw_has {p t x b sh : Nat} (hk : sok s) (hm : mok s B m) (hb : b ≤ 120) (ht : t ≤ 120) (hx : x ≠ p) (hs : sh.testBit p = true) (h : Ds s m mg sh p t x ≤ b) : (lwF s m mg sh b x p t s.nr).2 ≤ 120 := by
  have hFR : FR = 1000000 := rfl
  obtain ⟨v, hv, a1, a2, a3, a4⟩ := (first_leg hk hm (by omega) hb hx hs).mp h
  have hd : dep (nok s m mg v) t ≠ FR := fun e => by
    have : nar s m mg v t = FR := by unfold nar arr; rw [if_pos e]
    omega
  have hnar : nar s m mg v t = dep (nok s m mg v) t + ntl s m v := by unfold nar arr; rw [if_neg hd]
  rcases dep_spec (nok s m mg v) t with ⟨c1, c2⟩ | ⟨c1, c2, c3, c4⟩
  · exact absurd c1 hd
  · have hh := lw_nx (mg := mg) (sh := sh) (x := x) (p := p) hk hm hb hv c1 c2 (by
      unfold nx
      unfold nok at c3
      rw [Bool.and_eq_true] at c3
      simp only [Bool.and_eq_true, decide_eq_true_eq]
      refine ⟨a1, by rw [a2]; rfl, c3.2, by rw [← hnar]; exact a4⟩)
    omega
theorem lw_is {p t x b sh : Nat} (hk : sok s) (hm : mok s B m) (h : (lwF s m mg sh b x p t s.nr).2 ≤ 120) : (lwF s m mg sh b x p t s.nr).1 < 2 * s.nr ∧ t ≤ (lwF s m mg sh b x p t s.nr).2 ∧ nx s m mg sh b x p (lwF s m mg sh b x p t s.nr).2 (lwF s m mg sh b x p t s.nr).1 = true ∧ nar s m mg (lwF s m mg sh b x p t s.nr).1 t = (lwF s m mg sh b x p t s.nr).2 + ntl s m (lwF s m mg sh b x p t s.nr).1 ∧ sh.testBit (ntt m (lwF s m mg sh b x p t s.nr).1) = false ∧ nfr m (lwF s m mg sh b x p t s.nr).1 = p ∧ nar s m mg (lwF s m mg sh b x p t s.nr).1 t ≤ 120 ∧ Ds s m mg (sh ||| 2 ^ (ntt m (lwF s m mg sh b x p t s.nr).1)) (ntt m (lwF s m mg sh b x p t s.nr).1) (nar s m mg (lwF s m mg sh b x p t s.nr).1 t) x ≤ b := by
  have hFR : FR = 1000000 := rfl
  obtain ⟨g1, -⟩ := lwF_spec s m mg sh b x p t s.nr
  generalize lwF s m mg sh b x p t s.nr = q at *
  rcases g1 with g1 | ⟨g1, g2, g3, g4, g5⟩
  · omega
  · unfold ql at g2
    simp only [Bool.and_eq_true, decide_eq_true_eq] at g2
    obtain ⟨a1, a2, a3, a4⟩ := g2
    have hnar : nar s m mg q.1 t = q.2 + ntl s m q.1 := by rw [g4]; unfold nar arr; rw [if_neg (by omega)]
    have hv : q.1 < 2 * s.nr := by omega
    have hF := nar_FR (s := s) (m := m) (mg := mg) (t := t) hv
    have hun : sh.testBit (ntt m q.1) = false := by
      cases hh : sh.testBit (ntt m q.1) with
      | false => rfl
      | true => rw [hh] at a2; cases a2
    rcases dep_spec (nok s m mg q.1) t with ⟨c1, c2⟩ | ⟨c1, c2, c3, c4⟩
    · omega
    · rw [← g4] at c3
      unfold nok at c3
      rw [Bool.and_eq_true, decide_eq_true_eq] at c3
      have hD : Ds s m mg (sh ||| 2 ^ (ntt m q.1)) (ntt m q.1) (nar s m mg q.1 t) x ≤ b := by rw [Ds_self hk hm hF]; exact a4
      refine ⟨hv, by omega, ?_, hnar, hun, a1, ?_, hD⟩
      · unfold nx
        simp only [Bool.and_eq_true, decide_eq_true_eq]
        exact ⟨a1, a2, c3.2, by rw [← hnar]; exact hD⟩
      · have := c3.1
        omega
theorem wX12_wayOf {a x : Nat} {x1 x2 : Int32} (h : MI B s m us kp mk row tx I) (hk : sok s) (hm : mok s B m) (hmg : mg ≤ 20) (ha : a < s.np) (hx : x < s.np) (h1 : x1 = nI a) (h2 : x2 = nI x)
    (hQ : ∀ M r', MI B s m us kp mk (if Ds s m mg 0 a 0 x ≤ 120 then pth s m mg (Ds s m mg 0 a 0 x) x 8 a 0 0 else row) tx M → Lo M I → (∀ j, j ∉ [13, 16, 17, 18, 19, 28] → M 108 j = I 108 j) → Q (if Ds s m mg 0 a 0 x ≤ 120 then nI (Ds s m mg 0 a 0 x) else -2) M L r') : rt_Call G (d + 143) kX12_wayOf [.ref 108, .int x1, .int x2, .int (nI mg)] I L r Q := by
  have h12 := hk.2.1
  have h8 := hk.1
  have hFR : FR = 1000000 := rfl
  subst h1 h2
  have hD := Ds_le hk hm mg 0 a (t := 0) (by omega) x
  refine v_X12_wayOf _ _ _ _ _ _ (gM_soon (t := 0) h hk hm hmg ha (by omega) rfl rfl (fun M0 r0 h0 s0 l0 j0 _ => ⟨vp_nI rfl (by omega) (by omega), ?_⟩))
  rw [cl (n := x) rfl (by omega), s0 x (by omega)]
  refine ⟨fun z => ?_, fun z => ?_⟩
  · have hle := (n_le (b := 120) rfl rfl (by omega) (by omega)).mp z
    simp only [if_pos hle] at hQ
    have hself : Ds s m mg (0 ||| 2 ^ a) a 0 x = Ds s m mg 0 a 0 x := Ds_self hk hm (by omega) x
    generalize Ds s m mg 0 a 0 x = b at *
    rw [show ((1 : Int32) <<< (nI a &&& 31)) = nI (0 ||| 2 ^ a) by rw [← or_nI (by omega)]; exact (Int32.zero_or).symm]
    have key : ∀ g p t sh (rw : List Int32) M r', uns (sh ||| 2 ^ p) < g → rw.length + 2 * g ≤ 16 → p < s.np → t ≤ 120 → sh < 256 → MI B s m us kp mk rw tx M → Lo M I → (∀ j, j ∉ [13, 16, 17, 18, 19, 28] → M 108 j = I 108 j) → Ds s m mg (sh ||| 2 ^ p) p t x ≤ b → pth s m mg b x 8 a 0 0 = rw ++ pth s m mg b x g p t sh → rt_AW G (d + 143) kX12_wayOf Q 41 [some (.ref 108), none, some (.int (nI x)), some (.int (nI mg)), some (.int (nI b)), some (.int (nI p)), some (.int (nI t)), some (.int (nI (sh ||| 2 ^ p))), none, none] [] M L r' := by
      intro g
      induction g with
      | zero =>
        intro p t sh rw M r' hu
        exact absurd hu (Nat.not_lt_zero _)
      | succ g ih =>
        intro p t sh rw M r' hu hl hp ht hsh hX hL hj hDb e
        have epth : pth s m mg b x (g + 1) p t sh = if p = x then [] else
          if (lwF s m mg (sh ||| 2 ^ p) b x p t s.nr).2 = FR then [] else
          nI (lwF s m mg (sh ||| 2 ^ p) b x p t s.nr).2 :: nI ((lwF s m mg (sh ||| 2 ^ p) b x p t s.nr).1 / 2) :: pth s m mg b x g (ntt m (lwF s m mg (sh ||| 2 ^ p) b x p t s.nr).1) (nar s m mg (lwF s m mg (sh ||| 2 ^ p) b x p t s.nr).1 t) (sh ||| 2 ^ p) := rfl
        rw [epth] at e
        by_cases hpx : p = x
        · rw [if_pos hpx, List.append_nil] at e
          rw [e] at hQ
          exact v_X12_wayOf_41 _ _ _ _ _ _ _ _ _ ⟨fun _ => hQ M r' hX hL hj, fun y => absurd (by rw [hpx]) y⟩
        · have hpn : ¬ nI p = nI x := fun y => hpx ((nI_eq (by omega) (by omega)).mp y)
          have hsh2 := or_lt hsh (show p < 8 by omega)
          have hpb : (sh ||| 2 ^ p).testBit p = true := by rw [tb_set]; simp
          have hu8 := uns_set (show p < 8 by omega) hpb
          have hhas := lw_has hk hm hle ht (Ne.symm hpx) hpb hDb
          obtain ⟨i1, i2, i3, i4, i5, i6, i7, i8⟩ := lw_is hk hm hhas
          have hlx : ∀ v0 t0, v0 < 2 * s.nr → t ≤ t0 → t0 ≤ 120 → nx s m mg (sh ||| 2 ^ p) b x p t0 v0 = true → (lwF s m mg (sh ||| 2 ^ p) b x p t s.nr).2 ≤ t0 ∧ ((lwF s m mg (sh ||| 2 ^ p) b x p t s.nr).2 = t0 → (lwF s m mg (sh ||| 2 ^ p) b x p t s.nr).1 / 2 ≤ v0 / 2) := fun v0 t0 a1 a2 a3 a4 => lw_nx hk hm hle a1 a2 a3 a4
          rw [if_neg hpx, if_neg (by omega)] at e
          generalize lwF s m mg (sh ||| 2 ^ p) b x p t s.nr = q at *
          have pl := net_pl hk hm i1
          have walk : ∀ n t0 M r', t0 + n = q.2 → t ≤ t0 → MI B s m us kp mk rw tx M → Lo M I → (∀ j, j ∉ [13, 16, 17, 18, 19, 28] → M 108 j = I 108 j) → rt_AW G (d + 143) kX12_wayOf Q 41 [some (.ref 108), none, some (.int (nI x)), some (.int (nI mg)), some (.int (nI b)), some (.int (nI p)), some (.int (nI t0)), some (.int (nI (sh ||| 2 ^ p))), none, none] [] M L r' := by
            intro n
            induction n with
            | zero =>
              intro t0 M r' hn htt hX hL hj
              obtain rfl : t0 = q.2 := by omega
              refine v_X12_wayOf_41 _ _ _ _ _ _ _ _ _ ⟨fun y => absurd y hpn, fun _ => wX12_nextRoad hX.1 hX.2.1 hk hm hmg hp hx hle hhas hsh2 hu8 rfl rfl rfl rfl rfl (fun M1 r1 hf hno => absurd i3 (hno q.1 i1)) (fun M1 r1 v hf hv hnv hlow => ⟨fun _ => ?_, fun y => absurd y (n_ne1 (by omega))⟩)⟩
              have hvq : v / 2 = q.1 / 2 := by
                have h1 := (hlx v q.2 hv htt hhas hnv).2 rfl
                by_cases hlt : q.1 / 2 < v / 2
                · exact absurd i3 (hlow q.1 i1 hlt)
                · omega
              rw [hvq]
              have hX1 := hX.mq hf
              have hfe : fe m (q.1 / 2) (nI p) = nI (ntt m q.1) := by
                rcases wv_of hk hm (show q.1 / 2 < s.nr by omega) (show p < 8 by omega) with ⟨b1, b2⟩ | ⟨b1, b2, b3⟩
                · exact absurd i6 (b2 q.1 rfl)
                · rw [b1, wv_eq hk hm i1 i6]
              refine wX12_beyond hX1.2.1 hk rfl (by omega) ?_
              rw [hfe]
              refine gM_tel2 hX1 (by omega) (fun M2 hX2 f2 g2 => gM_tel2 hX2 (by rw [List.length_append]; simp; omega) (fun M3 hX3 f3 g3 => wX12_turnsOf hX3.1 hk rfl (by omega) rfl hp rfl pl.2 (fun M4 r4 hT => ?_)))
              obtain ⟨l1, l20, el⟩ := ntl_ex s m q.1
              rw [i6] at el
              rw [el, nI_add, ← i4, or_nI (by omega)]
              have hTq := hT.w hX3.1
              have hu2 := uns_or (show ntt m q.1 < 8 by omega) i5
              refine ih (ntt m q.1) (nar s m mg q.1 t) (sh ||| 2 ^ p) (rw ++ [nI q.2] ++ [nI (q.1 / 2)]) M4 r4 (by omega) ?_ pl.2 i7 hsh2 (hX3.mq hTq) ?_ (fun j hjn => ?_) i8 ?_
              · rw [List.length_append, List.length_append]; simp; omega
              · exact (Lo.of hTq.1 (by decide)).trans ((Lo.of f3 (by decide)).trans ((Lo.of f2 (by decide)).trans ((Lo.of hf.1 (by decide)).trans hL)))
              · have n5 : j ∉ [16, 17, 18, 19, 28] := fun y => hjn (List.mem_cons_of_mem _ y)
                have n1 : j ∉ [13] := fun y => hjn (by rw [List.mem_singleton] at y; subst y; simp)
                rw [hTq.2.1 j n5, g3 j n1, g2 j n1, hf.2.1 j n5, hj j hjn]
              · rw [e]; simp
            | succ n ihn =>
              intro t0 M r' hn htt hX hL hj
              refine v_X12_wayOf_41 _ _ _ _ _ _ _ _ _ ⟨fun y => absurd y hpn, fun _ => wX12_nextRoad hX.1 hX.2.1 hk hm hmg hp hx hle (by omega) hsh2 hu8 rfl rfl rfl rfl rfl (fun M1 r1 hf hno => ⟨fun y => absurd rfl y, fun _ => ?_⟩) (fun M1 r1 v hf hv hnv hlow => ?_)⟩
              · rw [nI_1]
                exact ihn (t0 + 1) M1 r1 (by omega) (by omega) (hX.mq hf) ((Lo.of hf.1 (by decide)).trans hL) (fun j hjn => (hf.2.1 j (fun y => hjn (List.mem_cons_of_mem _ y))).trans (hj j hjn))
              · have := (hlx v t0 hv htt (by omega) hnv).1
                omega
          exact walk (q.2 - t) t M r' (by omega) (Nat.le_refl _) hX hL hj
    refine key 8 a 0 0 [] (rt_u M0 108 13 0) r0 (uns_set (show a < 8 by omega) (by rw [tb_set]; simp)) (by simp) ha (by omega) (by omega) h0.c13 (c13L.trans l0) (fun j hj => ?_) (by rw [hself]; exact Nat.le_refl _) rfl
    have n1 : j ≠ 13 := fun y => hj (by subst y; simp)
    rw [rt_u1 n1]
    exact j0 j (fun y => hj (List.mem_cons_of_mem _ y))
  · have hle := mt (n_le (a := Ds s m mg 0 a 0 x) (b := 120) rfl rfl (by omega) (by omega)).mpr z
    simp only [if_neg hle] at hQ
    exact hQ M0 r0 h0 l0 (fun j hj => j0 j (fun y => hj (List.mem_cons_of_mem _ y)))
end
