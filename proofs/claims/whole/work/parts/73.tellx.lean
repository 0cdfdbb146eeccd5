/-! THE FACE: the class tells the least way; soonest, safe -/
section
variable {G : rt_G} {d : Nat} {Q : rt_Q} {I : rt_I} {L : rt_L} {r B mg : Nat} {s : SV} {m : MO} {us : List MO} {kp : Nat → Option MO} {mk : MKT} {row : List Int32} {tx : TXT}
def lwX (q : Nat × Nat) : Int32 := if q.2 = FR then -1 else nI q.1
theorem wv_of {w p : Nat} (hk : sok s) (hm : mok s B m) (hw : w < s.nr) (hp : p < 8) : (fe m w (nI p) = -1 ∧ ∀ v, v / 2 = w → nfr m v ≠ p) ∨ (fe m w (nI p) = nI (ntt m (wv m w p)) ∧ nfr m (wv m w p) = p ∧ ntt m (wv m w p) < s.np) := by
  rcases way_of hk hm hw hp with h | ⟨v, v1, v2, v3, v4, v5⟩
  · exact Or.inl h
  · have e : v = wv m w p := by
      obtain ⟨n1, n2, n3, n4⟩ := net_e m w
      obtain ⟨p1, p2, p3, -⟩ := ends_ok hk hm hw
      unfold wv
      split
      · rename_i h
        exact (v5 (2 * w) (by omega) (by rw [n1]; exact h)).symm
      · rename_i h
        have : v = 2 * w ∨ v = 2 * w + 1 := by omega
        rcases this with q | q
        · rw [q, n1] at v3; exact absurd v3 h
        · exact q
    rw [← e]
    exact Or.inr ⟨v4, v3, (net_pl hk hm v1).2⟩
theorem wX10_leastWayOn {p t sh x b : Nat} {x1 x2 x3 x4 x5 : Int32} (h : XI s m us kp mk row tx I) (hk : sok s) (hm : mok s B m) (hW : XW s m mg I) (hp : p < s.np) (ht : t ≤ 120) (hsh : sh < 256) (hx : x < s.np) (hb : b ≤ 120) (h1 : x1 = nI p) (h2 : x2 = nI t) (h3 : x3 = nI sh) (h4 : x4 = nI x) (h5 : x5 = nI b)
    (hQ : ∀ M, XI s m us kp mk row tx M → XW s m mg M → (∀ c, 108 ≤ c → M c = I c) → Q (lwX (lwF s m mg sh b x p t s.nr)) M L r) : rt_Call G (d + 3) kX10_leastWayOn [.ref 29, .int x1, .int x2, .int x3, .int x4, .int x5] I L r Q := by
  have h12 := hk.2.1
  have h8 := hk.1
  have hFR : FR = 1000000 := rfl
  subst h1 h2 h3 h4 h5
  refine v_X10_leastWayOn _ _ _ _ _ _ _ _ (rt_loop (P := fun k => ∀ M, XI s m us kp mk row tx M → XW s m mg M → (∀ c, 108 ≤ c → M c = I c) → rt_AW G (d + 3) kX10_leastWayOn Q 10 [some (.ref 29), some (.int (nI p)), some (.int (nI t)), some (.int (nI sh)), some (.int (nI x)), some (.int (nI b)), some (.int (lwX (lwF s m mg sh b x p t k))), some (.int (nI (lwF s m mg sh b x p t k).2)), some (.int (nI k)), none, none, none] [] M L r) s.nr ?_ ?_ I h hW (fun _ _ => rfl))
  · intro M hX w0 hi
    exact v_X10_leastWayOn_10 _ _ _ _ _ _ _ _ _ _ _ ⟨fun _ => hQ M hX w0 hi, fun z => absurd (by rw [hX.1.2.1]; exact Int32.le_refl _) z⟩
  · intro w hw ih M hX w0 hi
    have hFk := lwF_le s m mg sh b x p t w
    have e1 : lwF s m mg sh b x p t (w + 1) = if (ql s m mg sh b x p t (wv m w p) && decide (dep (nok s m mg (wv m w p)) t < (lwF s m mg sh b x p t w).2)) = true then (wv m w p, dep (nok s m mg (wv m w p)) t) else lwF s m mg sh b x p t w := rfl
    have no : ∀ M, XI s m us kp mk row tx M → XW s m mg M → (∀ c, 108 ≤ c → M c = I c) → ¬ (ql s m mg sh b x p t (wv m w p) && decide (dep (nok s m mg (wv m w p)) t < (lwF s m mg sh b x p t w).2)) = true → rt_AW G (d + 3) kX10_leastWayOn Q 10 [some (.ref 29), some (.int (nI p)), some (.int (nI t)), some (.int (nI sh)), some (.int (nI x)), some (.int (nI b)), some (.int (lwX (lwF s m mg sh b x p t w))), some (.int (nI (lwF s m mg sh b x p t w).2)), some (.int (nI (w + 1))), none, none, none] [] M L r := by
      intro M a b c hn
      have := ih M a b c
      rw [e1, if_neg hn] at this
      exact this
    have yes : ∀ M, XI s m us kp mk row tx M → XW s m mg M → (∀ c, 108 ≤ c → M c = I c) → (ql s m mg sh b x p t (wv m w p) && decide (dep (nok s m mg (wv m w p)) t < (lwF s m mg sh b x p t w).2)) = true → rt_AW G (d + 3) kX10_leastWayOn Q 10 [some (.ref 29), some (.int (nI p)), some (.int (nI t)), some (.int (nI sh)), some (.int (nI x)), some (.int (nI b)), some (.int (nI (wv m w p))), some (.int (nI (dep (nok s m mg (wv m w p)) t))), some (.int (nI (w + 1))), none, none, none] [] M L r := by
      intro M a b c hn
      have := ih M a b c
      rw [e1, if_pos hn] at this
      unfold lwX at this
      rw [Bool.and_eq_true, decide_eq_true_eq] at hn
      dsimp only at this
      rw [if_neg (by omega)] at this
      exact this
    refine v_X10_leastWayOn_10 _ _ _ _ _ _ _ _ _ _ _ ⟨fun z => absurd ((n_le hX.1.2.1 rfl (by omega) (by omega)).mp z) (by omega), fun _ => wX4_farEnd hX.2.1 hk rfl hw ?_⟩
    simp only [nI_1]
    rcases wv_of hk hm hw (show p < 8 by omega) with ⟨f1, f2⟩ | ⟨f1, f2, f3⟩
    · rw [f1]
      refine ⟨fun _ => no M hX w0 hi (fun a => ?_), fun y => absurd rfl y⟩
      rw [Bool.and_eq_true] at a
      unfold ql at a
      simp only [Bool.and_eq_true, decide_eq_true_eq] at a
      exact f2 (wv m w p) (by unfold wv; split <;> omega) a.1.1
    · rw [f1]
      have hv : wv m w p < 2 * s.nr := by unfold wv; split <;> omega
      have hs := shb ⟨sh, hsh⟩ ⟨ntt m (wv m w p), by omega⟩
      refine ⟨fun y => absurd y (n_ne1 (by omega)), fun _ => ⟨fun z => ⟨vp_nI rfl (by omega) (by omega), ?_⟩, fun z => no M hX w0 hi (fun a => ?_)⟩⟩
      · have hun : sh.testBit (ntt m (wv m w p)) = false := hs.mp z
        obtain ⟨l1, l20, -⟩ := ntl_ex s m (wv m w p)
        have hdl := dep_le (ok := nok s m mg (wv m w p)) (t := t)
        have hqe : ql s m mg sh b x p t (wv m w p) = (decide (dep (nok s m mg (wv m w p)) t < FR) && decide (Ds s m mg sh (ntt m (wv m w p)) (nar s m mg (wv m w p) t) x ≤ b)) := by
          unfold ql
          rw [f2, hun]
          simp
        have go : ∀ y, y = nI (wv m w p) → rt_Call G (d + 2) kX10_outFrom [.ref 29, .int y, .int (nI t)] M L r (fun v2 I2 L2 r2 =>
            ((v2 < nI (lwF s m mg sh b x p t w).2 → (vp_in y 24 ∧ rt_Call G (d + 2) kX10_spread [.ref 29, .int (nI (ntt m (wv m w p))), .int (v2 + (I2 30 y.toNatClampNeg)), .int (nI sh)] I2 L2 r2 (fun v3 I3 L3 r3 =>
                (vp_in (nI x) 8 ∧ ((nI b < (I3 33 (nI x).toNatClampNeg) → rt_AW G (d + 3) kX10_leastWayOn Q 10 [some (.ref 29), some (.int (nI p)), some (.int (nI t)), some (.int (nI sh)), some (.int (nI x)), some (.int (nI b)), some (.int (lwX (lwF s m mg sh b x p t w))), some (.int (nI (lwF s m mg sh b x p t w).2)), some (.int (nI (w + 1))), none, none, none] [] I3 L3 r3)
                  ∧ (¬ nI b < (I3 33 (nI x).toNatClampNeg) → rt_AW G (d + 3) kX10_leastWayOn Q 10 [some (.ref 29), some (.int (nI p)), some (.int (nI t)), some (.int (nI sh)), some (.int (nI x)), some (.int (nI b)), some (.int y), some (.int v2), some (.int (nI (w + 1))), none, none, none] [] I3 L3 r3))))))
             ∧ (¬ v2 < nI (lwF s m mg sh b x p t w).2 → rt_AW G (d + 3) kX10_leastWayOn Q 10 [some (.ref 29), some (.int (nI p)), some (.int (nI t)), some (.int (nI sh)), some (.int (nI x)), some (.int (nI b)), some (.int (lwX (lwF s m mg sh b x p t w))), some (.int (nI (lwF s m mg sh b x p t w).2)), some (.int (nI (w + 1))), none, none, none] [] I2 L2 r2))) := by
          intro y hy
          subst hy
          refine sX10_outFrom (v := wv m w p) (t := t) hk hv w0.2 rfl rfl (by omega) ⟨fun z2 => ⟨vp_nI rfl (by omega) (by omega), ?_⟩, fun z2 => no M hX w0 hi (fun a => ?_)⟩
          · have hlt := (nI_ltI (by omega) (by omega)).mp z2
            have hnar : nar s m mg (wv m w p) t = dep (nok s m mg (wv m w p)) t + ntl s m (wv m w p) := by unfold nar arr; rw [if_neg (by omega)]
            have hn2 := nar_FR (s := s) (m := m) (mg := mg) (t := t) hv
            rw [cl (n := wv m w p) rfl (by omega), w0.1 _ hv, nI_add, ← hnar]
            have hD := Ds_le hk hm mg sh (ntt m (wv m w p)) hn2 x
            refine gX_spread hX hk hm w0 f3 hsh hn2 rfl rfl rfl (fun M2 h2 w2 s2 f2' => ⟨vp_nI rfl (by omega) (by omega), ?_⟩)
            have i2 : ∀ c, 108 ≤ c → M2 c = I c := fun c hc => (f2'.hi (by decide) c hc).trans (hi c hc)
            rw [cl (n := x) rfl (by omega), s2 x (by omega)]
            refine ⟨fun z3 => no M2 h2 w2 i2 (fun a => ?_), fun z3 => yes M2 h2 w2 i2 ?_⟩
            · have := (nI_ltI (by omega) (by omega)).mp z3
              rw [hqe] at a
              simp only [Bool.and_eq_true, decide_eq_true_eq] at a
              omega
            · have := mt (nI_ltI (a := b) (b := Ds s m mg sh (ntt m (wv m w p)) (nar s m mg (wv m w p) t) x) (by omega) (by omega)).mpr z3
              rw [hqe]
              simp only [Bool.and_eq_true, decide_eq_true_eq]
              omega
          · have hlt := mt (nI_ltI (a := dep (nok s m mg (wv m w p)) t) (b := (lwF s m mg sh b x p t w).2) (by omega) (by omega)).mpr z2
            simp only [Bool.and_eq_true, decide_eq_true_eq] at a
            omega
        have e18 : M 18 w = nI (ea m w) := (hX.2.1.2.2.1 w hw).trans (ends_ok hk hm hw).2.2.2.1
        have heal := (ends_ok hk hm hw).1
        rw [cl (n := w) rfl (by omega), e18, n2w, nI_1]
        refine ⟨fun y => go _ ?_, fun y => go _ ?_⟩
        · unfold wv
          rw [if_neg (fun a => y (by rw [a]))]
        · unfold wv
          rw [if_pos ((nI_eq (by omega) (by omega)).mp y)]
      · have hun : sh.testBit (ntt m (wv m w p)) = true := by
          cases hh : sh.testBit (ntt m (wv m w p)) with
          | true => rfl
          | false => exact absurd (hs.mpr hh) z
        unfold ql at a
        rw [hun] at a
        simp at a
theorem XI.len (h : XI s m us kp mk row tx I) (h16 : row.length ≤ 16) : row.length ≤ 16 := h16
theorem wX10_tellLeastWay {x b : Nat} {x1 x2 x3 : Int32} {p0 : Nat} (h : XI s m us kp mk [] tx I) (hk : sok s) (hm : mok s B m) (hW : XW s m mg I) (hp0 : p0 < s.np) (hx : x < s.np) (hb : b ≤ 120) (h1 : x1 = nI p0) (h2 : x2 = nI x) (h3 : x3 = nI b)
    (hQ : ∀ M, XI s m us kp mk (pth s m mg b x 8 p0 0 0) tx M → (∀ c, 108 ≤ c → M c = I c) → Q 0 M L r) : rt_Call G (d + 4) kX10_tellLeastWay [.ref 29, .int x1, .int x2, .int x3, .ref 42] I L r Q := by
  have h12 := hk.2.1
  have h8 := hk.1
  have hFR : FR = 1000000 := rfl
  subst h1 h2 h3
  refine v_X10_tellLeastWay _ _ _ _ _ _ ?_
  have key : ∀ g k p t sh (rw : List Int32) M, g + k = 8 → rw.length = 2 * k → p < s.np → t ≤ 120 → sh < 256 → XI s m us kp mk rw tx M → XW s m mg M → (∀ c, 108 ≤ c → M c = I c) → pth s m mg b x 8 p0 0 0 = rw ++ pth s m mg b x g p t sh → rt_AW G (d + 4) kX10_tellLeastWay Q 12 [some (.ref 29), none, some (.int (nI x)), some (.int (nI b)), some (.ref 42), some (.int (nI p)), some (.int (nI t)), some (.int (nI sh)), some (.int (nI k)), none, none] [] M L r := by
    intro g
    induction g with
    | zero =>
      intro k p t sh rw M hg hrl hp ht hsh hX hW hi e
      obtain rfl : k = 8 := by omega
      rw [show pth s m mg b x 0 p t sh = [] from rfl, List.append_nil] at e
      rw [e] at hQ
      exact v_X10_tellLeastWay_12 _ _ _ _ _ _ _ _ _ ⟨fun _ => hQ M hX hi, fun z => absurd (by decide) z⟩
    | succ g ih =>
      intro k p t sh rw M hg hrl hp ht hsh hX hW hi e
      have epth : pth s m mg b x (g + 1) p t sh = if p = x then [] else
        if (lwF s m mg (sh ||| 2 ^ p) b x p t s.nr).2 = FR then [] else
        nI (lwF s m mg (sh ||| 2 ^ p) b x p t s.nr).2 :: nI ((lwF s m mg (sh ||| 2 ^ p) b x p t s.nr).1 / 2) :: pth s m mg b x g (ntt m (lwF s m mg (sh ||| 2 ^ p) b x p t s.nr).1) (nar s m mg (lwF s m mg (sh ||| 2 ^ p) b x p t s.nr).1 t) (sh ||| 2 ^ p) := rfl
      rw [epth] at e
      refine v_X10_tellLeastWay_12 _ _ _ _ _ _ _ _ _ ⟨fun z => absurd ((n_le (a := 8) (b := k) rfl rfl (by omega) (by omega)).mp z) (by omega), fun _ => ⟨fun z => ?_, fun z => ?_⟩⟩
      · rw [if_pos ((nI_eq (by omega) (by omega)).mp z), List.append_nil] at e
        rw [e] at hQ
        exact hQ M hX hi
      · rw [if_neg (fun a => z (by rw [a]))] at e
        rw [or_nI (by omega)]
        have hsh2 := or_lt hsh (show p < 8 by omega)
        refine wX10_leastWayOn hX hk hm hW hp ht hsh2 hx hb rfl rfl rfl rfl rfl (fun M1 h1 w1 i1 => ?_)
        obtain ⟨g1, -⟩ := lwF_spec s m mg (sh ||| 2 ^ p) b x p t s.nr
        generalize lwF s m mg (sh ||| 2 ^ p) b x p t s.nr = q at *
        have i1' : ∀ c, 108 ≤ c → M1 c = I c := fun c hc => (i1 c hc).trans (hi c hc)
        rcases g1 with g1 | ⟨g1, g2, g3, g4, g5⟩
        · rw [if_pos g1, List.append_nil] at e
          rw [e] at hQ
          have ex : lwX q = -1 := if_pos g1
          rw [ex]
          exact ⟨fun y => absurd rfl y, fun _ => hQ M1 h1 i1'⟩
        · rw [if_neg (by omega)] at e
          have ex : lwX q = nI q.1 := if_neg (by omega)
          have hv : q.1 < 2 * s.nr := by omega
          have hn2 := nar_FR (s := s) (m := m) (mg := mg) (t := t) hv
          have hnar : nar s m mg q.1 t = dep (nok s m mg q.1) t + ntl s m q.1 := by unfold nar arr; rw [if_neg (by omega)]
          have hnle : nar s m mg q.1 t ≤ 120 := by
            rcases (nar_ok s m mg q.1 hv).2 t with z | z
            · have := (ntl_ex s m q.1).2.1
              have := dep_spec (nok s m mg q.1) t
              omega
            · exact z.2
          rw [ex]
          refine ⟨fun _ => sX10_outFrom (v := q.1) (t := t) hk hv w1.2 rfl rfl (by omega) ?_, fun y => absurd y (n_ne1 (by omega))⟩
          rw [← g4]
          refine gX_add h1 (by omega) (fun M2 h2 f2 => ⟨by decide, ?_⟩)
          rw [ndiv2 (by omega)]
          refine gX_add h2 (by rw [List.length_append]; simp; omega) (fun M3 h3 f3 => ⟨vp_nI rfl (by omega) (by omega), by decide, ?_⟩)
          have f3' := f3.trans f2
          have w3 : XW s m mg M3 := w1.fr (f3' 30 (by decide)) (f3' 31 (by decide))
          have hw2 : q.1 / 2 < s.nr := g1
          have hql := g2
          unfold ql at hql
          simp only [Bool.and_eq_true, decide_eq_true_eq] at hql
          have hfe : fe m (q.1 / 2) (nI p) = nI (ntt m q.1) := by
            rcases wv_of hk hm hw2 (show p < 8 by omega) with ⟨a1, a2⟩ | ⟨a1, a2, a3⟩
            · exact absurd hql.1 (a2 q.1 rfl)
            · rw [a1, ← g3]
          have hnt := (net_pl hk hm hv).2
          refine wX4_farEnd h3.2.1 hk rfl hw2 ?_
          rw [hfe]
          refine ⟨fun _ => ?_, fun y => absurd y (n_ne1 (by omega))⟩
          rw [cl (n := q.1) rfl (by omega), w3.1 _ hv, g4, nI_add, ← hnar, nI_1]
          refine ih (k + 1) (ntt m q.1) (nar s m mg q.1 t) (sh ||| 2 ^ p) _ M3 (by omega) ?_ hnt hnle hsh2 h3 w3 (fun c hc => (f3'.hi (by decide) c hc).trans (i1' c hc)) ?_
          · rw [List.length_append, List.length_append]; simp; omega
          · rw [e]; simp
  exact key 8 0 p0 0 0 [] I (by omega) rfl hp0 (by omega) (by omega) h hW (fun _ _ => rfl) rfl
noncomputable def fWay (s : SV) (m : MO) (row : List Int32) (mg : Nat) (x y : Int32) : Int32 × List Int32 :=
  if (inb x s.np && inb y s.np) = true then
    if Ds s m mg 0 (cc x) 0 (cc y) ≤ 120 then (nI (Ds s m mg 0 (cc x) 0 (cc y)), pth s m mg (Ds s m mg 0 (cc x) 0 (cc y)) (cc y) 8 (cc x) 0 0) else (-2, row)
  else (-1, row)
theorem fX_way {x y z : Int32} (h : XI s m us kp mk row tx I) (hk : sok s) (hm : mok s B m) (hmg : mg ≤ 20) (hz : z = nI mg)
    (hQ : ∀ M, XI s m us kp mk (fWay s m row mg x y).2 tx M → (∀ c, 108 ≤ c → M c = I c) → Q (fWay s m row mg x y).1 M L r) : rt_Call G (d + 5) kX11_soonestWay [.ref 0, .int x, .int y, .int z] I L r Q := by
  have h8 := hk.1
  have hFR : FR = 1000000 := rfl
  subst hz
  unfold fWay at hQ
  have hno : ¬ (inb x s.np && inb y s.np) = true → Q (-1) I L r := by
    intro q
    rw [if_neg q] at hQ
    exact hQ I h (fun _ _ => rfl)
  refine v_X11_soonestWay _ _ _ _ _ _ (sX2_hasPlace h.1.1 (fun z1 => ⟨fun q => absurd q (by decide), fun _ => sX2_hasPlace h.1.1 (fun z2 => ⟨fun _ => ?_, fun q => absurd q (by decide)⟩) (fun z2 => ⟨fun q => absurd rfl q, fun _ => hno (fun q => by rw [Bool.and_eq_true] at q; exact z2 (inb_iff.mp q.2))⟩)⟩) (fun z1 => ⟨fun _ => hno (fun q => by rw [Bool.and_eq_true] at q; exact z1 (inb_iff.mp q.1)), fun q => absurd rfl q⟩))
  rw [if_pos (by rw [Bool.and_eq_true]; exact ⟨inb_iff.mpr z1, inb_iff.mpr z2⟩)] at hQ
  obtain ⟨a, ha, rfl⟩ := (inr_iff (by omega)).mp z1
  obtain ⟨b, hb, rfl⟩ := (inr_iff (by omega)).mp z2
  rw [cc_nI (by omega), cc_nI (by omega)] at hQ
  have hD := Ds_le hk hm mg 0 a (t := 0) (by omega) b
  refine gX_look h hk hm hmg (fun M0 h0 w0 i0 => gX_spread (t := 0) h0 hk hm w0 ha (by omega) (by omega) rfl rfl (show (0 : Int32) = nI 0 from rfl) (fun M2 h2 w2 s2 f2 => ⟨vp_nI rfl (by omega) (by omega), ?_⟩))
  have i2 : ∀ c, 108 ≤ c → M2 c = I c := fun c hc => (f2.hi (by decide) c hc).trans (i0 c hc)
  rw [cl (n := b) rfl (by omega), s2 b (by omega)]
  refine ⟨fun z => ?_, fun z => ?_⟩
  · have hle := (n_le (b := 120) rfl rfl (by omega) (by omega)).mp z
    rw [if_pos hle] at hQ
    refine gX_clear h2 (fun M3 h3 f3 => wX10_tellLeastWay h3 hk hm (w2.fr (f3 30 (by decide)) (f3 31 (by decide))) ha hb hle rfl rfl rfl (fun M4 h4 i4 => hQ M4 h4 (fun c hc => (i4 c hc).trans ((f3.hi (by decide) c hc).trans (i2 c hc)))))
  · have hle := mt (n_le (a := Ds s m mg 0 a 0 b) (b := 120) rfl rfl (by omega) (by omega)).mpr z
    rw [if_neg hle] at hQ
    exact hQ M2 h2 i2
end
