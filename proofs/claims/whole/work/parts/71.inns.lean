/-! THE FACE: inns -/
noncomputable def nearN (s : SV) (m : MO) (n p : Nat) : Nat := btn (fun q => decide (Ds s m 0 0 p 0 q ≤ n)) s.np
noncomputable def srv (s : SV) (m : MO) (n k : Nat) : Bool := allb (fun p => decide (¬ nearN s m n p &&& k = 0)) s.np
def pc (n k : Nat) : Nat := cb (fun i => k.testBit i) n
def bx (np : Nat) (sv : Nat → Bool) : Nat → Nat
  | 0 => 2 ^ np - 1
  | j + 1 => if pc np j < pc np (bx np sv j) ∧ sv j = true then j else bx np sv j
noncomputable def innB (s : SV) (m : MO) (n : Nat) : Nat := bx s.np (srv s m n) (2 ^ s.np - 1)
noncomputable def fInns (s : SV) (m : MO) (row : List Int32) (x : Int32) : Int32 × List Int32 :=
  if inb x 121 = true then (nI (pc s.np (innB s m (cc x))), [nI (innB s m (cc x))]) else (-1, row)
theorem bx_lt {np : Nat} {sv : Nat → Bool} : ∀ j, j ≤ 2 ^ np - 1 → bx np sv j ≤ 2 ^ np - 1
  | 0, _ => Nat.le_refl _
  | j + 1, h => by
    have := bx_lt (np := np) (sv := sv) j (by omega)
    unfold bx
    split <;> omega
theorem pc_le (n k : Nat) : pc n k ≤ n := cb_le _ _
theorem btn_false : ∀ n, btn (fun _ => false) n = 0
  | 0 => rfl
  | n + 1 => by
    unfold btn
    rw [if_neg (by decide), btn_false n]
theorem btn_true (n : Nat) : btn (fun _ => true) n = 2 ^ n - 1 := by
  have h := btn_not (b := fun _ => true) n
  rw [show (fun c => !(fun _ => true) c) = (fun _ : Nat => false) from rfl, btn_false] at h
  omega
theorem btn_congr {b b' : Nat → Bool} : ∀ {n : Nat}, (∀ k, k < n → b k = b' k) → btn b n = btn b' n
  | 0, _ => rfl
  | n + 1, h => by
    unfold btn
    rw [h n (by omega), btn_congr (fun k hk => h k (by omega))]
theorem pc_lt {n k : Nat} (hk : k < 2 ^ n - 1) : pc n k < n := by
  rcases Nat.lt_or_ge (pc n k) n with h | h
  · exact h
  · have he : cb (fun i => k.testBit i) n = n := Nat.le_antisymm (cb_le _ _) h
    have hall := cb_all he
    have h2 := btn_of (x := k) (n := n) (by omega)
    rw [btn_congr (b' := fun _ => true) (fun i hi => hall i hi), btn_true] at h2
    omega
theorem pc_full (n : Nat) : pc n (2 ^ n - 1) = n := by
  unfold pc
  have : ∀ i, i < n → (2 ^ n - 1).testBit i = true := fun i hi => by
    rw [← btn_true, btn_bit]
    simpa using hi
  rw [cb_congr (b' := fun _ => true) this]
  have key : ∀ k, cb (fun _ => true) k = k := fun k => by
    induction k with
    | zero => rfl
    | succ k ih => rw [cb_s, if_pos rfl, ih]
  exact key n
theorem and_0 {a b : Nat} (ha : a < 2 ^ 31) : nI a &&& nI b = 0 ↔ a &&& b = 0 := by
  rw [nI_and]
  have hle : a &&& b ≤ a := Nat.and_le_left
  exact n_eq (a := a &&& b) (b := 0) rfl rfl (by omega) (by omega)
theorem np_pow {s : SV} (hk : sok s) : 1 ≤ 2 ^ s.np ∧ 2 ^ s.np ≤ 256 := ⟨Nat.pos_of_ne_zero (by simp), Nat.pow_le_pow_right (n := 2) (by omega) hk.1⟩
theorem near_lt {s : SV} {m : MO} (hk : sok s) (n p : Nat) : nearN s m n p < 256 := Nat.lt_of_lt_of_le (btn_lt _) (np_pow hk).2
theorem full_bits {s : SV} (hk : sok s) : ((1 : Int32) <<< (nI s.np &&& 31)) = nI (2 ^ s.np) := bit_nI (by have := hk.1; omega)
theorem srv_full {s : SV} {m : MO} {B n : Nat} (hk : sok s) (hm : mok s B m) : srv s m n (2 ^ s.np - 1) = true := by
  unfold srv
  rw [allb_iff]
  intro p hp
  rw [decide_eq_true_eq]
  intro h
  have h1 : (nearN s m n p &&& (2 ^ s.np - 1)).testBit p = true := by
    rw [Nat.testBit_and, ← btn_true]
    unfold nearN
    rw [btn_bit, btn_bit]
    have : Ds s m 0 0 p 0 p = 0 := (Ds_sp hk hm 0 0 p (t := 0) (Nat.zero_le _)).1
    simp [hp, this]
  rw [h] at h1
  simp at h1
section
variable {G : rt_G} {d : Nat} {Q : rt_Q} {I : rt_I} {L : rt_L} {r B mg : Nat} {s : SV} {m : MO} {us : List MO} {kp : Nat → Option MO} {mk : MKT} {row : List Int32} {tx : TXT}
theorem sJ6_pc {k : Nat} (hk : sok s) (h : k < 2 ^ s.np) (hQ : Q (nI (pc s.np k)) I L r) : rt_Call G d kJ6_bitCount_0f7a4 [.int (nI k)] I L r Q :=
  sJ6_bitCount (b := fun i => k.testBit i) (n := s.np) (by rw [btn_of h]) (by have := hk.1; omega) hQ
theorem sX10_serveAll {n k : Nat} (hS : XZ s I) (hk : sok s) (h34 : ∀ p, p < s.np → I 34 p = nI (nearN s m n p)) (h1 : srv s m n k = true → Q 1 I L r) (h0 : srv s m n k = false → Q 0 I L r) : rt_Call G d kX10_serveAll [.ref 29, .int (nI k)] I L r Q := by
  have h8 := hk.1
  refine v_X10_serveAll _ _ _ _ (rt_loop (P := fun p => allb (fun p => decide (¬ nearN s m n p &&& k = 0)) p = true → rt_AW G d kX10_serveAll Q 2 [some (.ref 29), some (.int (nI k)), some (.int (nI p))] [] I L r) s.np ?_ ?_ rfl)
  · intro h
    exact v_X10_serveAll_2 _ _ _ _ _ ⟨fun _ => h1 h, fun z => absurd (by rw [hS.1]; exact Int32.le_refl _) z⟩
  · intro p hp ih h
    refine v_X10_serveAll_2 _ _ _ _ _ ⟨fun z => absurd ((n_le hS.1 rfl (by omega) (by omega)).mp z) (by omega), fun _ => ⟨vp_nI rfl (by omega) (by omega), ?_⟩⟩
    have hnl := near_lt (m := m) hk n p
    rw [cl (n := p) rfl (by omega), h34 p hp, nI_1]
    refine ⟨fun z => ih ?_, fun z => h0 ?_⟩
    · show (allb _ p && decide (¬ nearN s m n p &&& k = 0)) = true
      rw [h, Bool.true_and, decide_eq_true_eq]
      exact fun y => z ((and_0 (by omega)).mpr y)
    · cases hh : srv s m n k with
      | false => rfl
      | true =>
        have := allb_iff.mp hh p hp
        rw [decide_eq_true_eq] at this
        exact absurd ((and_0 (by omega)).mp z) this
theorem fX_inns {x : Int32} (h : XI s m us kp mk row tx I) (hk : sok s) (hm : mok s B m)
    (hQ : ∀ M, XI s m us kp mk (fInns s m row x).2 tx M → (∀ c, 108 ≤ c → M c = I c) → Q (fInns s m row x).1 M L r) : rt_Call G (d + 5) kX11_inns [.ref 0, .int x] I L r Q := by
  have h8 := hk.1
  have hFR : FR = 1000000 := rfl
  obtain ⟨hp1, hp2⟩ := np_pow hk
  unfold fInns at hQ
  have hno : ¬ inb x 121 = true → Q (-1) I L r := by
    intro q
    rw [if_neg q] at hQ
    exact hQ I h (fun _ _ => rfl)
  refine v_X11_inns _ _ _ _ ⟨fun z4 => hno (fun q => ((inb100 (k := 120) (by omega)).mpr q).1 z4), fun z4 => ⟨fun z5 => ?_, fun z5 => hno (fun q => z5 ((inb100 (k := 120) (by omega)).mpr q).2)⟩⟩
  have hz := (inb100 (k := 120) (by omega)).mp ⟨z4, z5⟩
  rw [if_pos hz] at hQ
  obtain ⟨n, hn, rfl⟩ := (inr_iff (by omega)).mp (inb_iff.mp hz)
  rw [cc_nI (by omega)] at hQ
  refine gX_look (mg := 0) h hk hm (by omega) (fun M0 h0 w0 i0 => ?_)
  refine v_X10_fewestInns _ _ _ _ ?_
  refine rt_loop (P := fun p => ∀ M, XI s m us kp mk row tx M → XW s m 0 M → (∀ c, 108 ≤ c → M c = I c) → (∀ q, q < p → M 34 q = nI (nearN s m n q)) → rt_AW G (d + 4) kX10_fewestInns _ 2 [some (.ref 29), some (.int (nI n)), some (.int (nI p)), none] [] M L r) s.np ?_ ?_ M0 h0 w0 i0 (fun q hq => by omega)
  · intro M h1 w1 i1 g1
    refine v_X10_fewestInns_2 _ _ _ _ _ ⟨fun _ => sX2_allPlaces ?_, fun z => absurd (by rw [h1.1.1]; exact Int32.le_refl _) z⟩
    have efull : ((1 : Int32) <<< (M 12 1 &&& 31)) - 1 = nI (2 ^ s.np - 1) := by
      rw [h1.1.1, full_bits hk]
      exact n_sl hp1
    rw [efull]
    refine rt_loop (P := fun j => rt_AW G (d + 4) kX10_fewestInns _ 47 [some (.ref 29), none, some (.int (nI (bx s.np (srv s m n) j))), some (.int (nI j))] [] M L r) (2 ^ s.np - 1) ?_ ?_
    · refine v_X10_fewestInns_47 _ _ _ _ _ (sX2_allPlaces ?_)
      rw [efull]
      refine ⟨fun _ => ?_, fun z => absurd (Int32.le_refl _) z⟩
      have hb := bx_lt (np := s.np) (sv := srv s m n) (2 ^ s.np - 1) (Nat.le_refl _)
      refine gX_clear h1 (fun M3 h3 f3 => gX_add h3 (by simp) (fun M4 h4 f4 => sJ6_pc hk (k := innB s m n) (by unfold innB; omega) ?_))
      exact hQ M4 h4 (fun c hc => ((f4.trans f3).hi (by decide) c hc).trans (i1 c hc))
    · intro j hj ih
      have hb := bx_lt (np := s.np) (sv := srv s m n) j (by omega)
      rw [show bx s.np (srv s m n) (j + 1) = if pc s.np j < pc s.np (bx s.np (srv s m n) j) ∧ srv s m n j = true then j else bx s.np (srv s m n) j from rfl] at ih
      have q1 := pc_le s.np j
      have q2 := pc_le s.np (bx s.np (srv s m n) j)
      refine v_X10_fewestInns_47 _ _ _ _ _ (sX2_allPlaces ?_)
      rw [efull]
      simp only [nI_1]
      refine ⟨fun z => absurd ((nI_leI (by omega) (by omega)).mp z) (by omega), fun _ => sJ6_pc hk (by omega) (sJ6_pc hk (by omega) ⟨fun z => ?_, fun z => sX10_serveAll h1.1 hk g1 (fun t => ⟨fun y => absurd y (by decide), fun _ => ?_⟩) (fun t => ⟨fun _ => ?_, fun y => absurd rfl y⟩)⟩)⟩
      · have := (nI_leI (by omega) (by omega)).mp z
        rw [if_neg (by omega)] at ih; exact ih
      · have := mt (nI_leI (a := pc s.np (bx s.np (srv s m n) j)) (b := pc s.np j) (by omega) (by omega)).mpr z
        rw [if_pos ⟨by omega, t⟩] at ih; exact ih
      · rw [if_neg (fun y => by rw [t] at y; exact absurd y.2 (by decide))] at ih; exact ih
  · intro p hp ih M h1 w1 i1 g1
    have hD := Ds_le hk hm 0 0 p (t := 0) (by omega)
    refine v_X10_fewestInns_2 _ _ _ _ _ ⟨fun z => absurd ((n_le h1.1.1 rfl (by omega) (by omega)).mp z) (by omega), fun _ => gX_spread (t := 0) h1 hk hm w1 hp (by omega) (by omega) rfl rfl (show (0 : Int32) = nI 0 from rfl) (fun M2 h2 w2 s2 f2 => wX10_reachedBy h2.1 hk s2 hD rfl (by omega) ⟨vp_nI rfl (by omega) (by omega), ?_⟩)⟩
    rw [cl (n := p) rfl (by omega), nI_1]
    have hF : Fr (rt_u M2 34 p (bts (fun q => decide (Ds s m 0 0 p 0 q ≤ n)) s.np)) M2 [34] := (Fr.refl _ _).u (by decide)
    refine ih _ (h2.q (hF.mono (by decide)) (by rw [hF 20 (by decide)]) (by rw [hF 38 (by decide)]) (h2.2.2.2.2.2.1.fr (hF 42 (by decide)) (hF 43 (by decide)))) (w2.fr (hF 30 (by decide)) (hF 31 (by decide))) (fun c hc => (hF.hi (by decide) c hc).trans ((f2.hi (by decide) c hc).trans (i1 c hc))) (fun q hq => ?_)
    by_cases e : q = p
    · subst e
      rw [rt_u_at, bts_n (by omega)]
      rfl
    · rw [rt_u1 e, f2 34 (by decide)]
      exact g1 q (by omega)
/-- the model's best so far: none yet, or the class's -/
def bmO (np : Nat) (sv : Nat → Bool) (j : Nat) : Int32 := if anyb sv j = true then nI (bx np sv j) else -1
theorem bx_no {np : Nat} {sv : Nat → Bool} : ∀ {j}, anyb sv j = false → bx np sv j = 2 ^ np - 1
  | 0, _ => rfl
  | j + 1, h => by
    rw [anyb_s, Bool.or_eq_false_iff] at h
    unfold bx
    rw [if_neg (by rw [h.2]; simp)]
    exact bx_no h.1
theorem fM_inns {x : Int32} (h : MI B s m us kp mk row tx I) (hk : sok s) (hm : mok s B m)
    (hQ : ∀ M r', MI B s m us kp mk (fInns s m row x).2 tx M → Lo M I → M 108 14 = 0 → Q (fInns s m row x).1 M L r') : rt_Call G (d + 134) kX12_inns [.ref 108, .int x] I L r Q := by
  have h8 := hk.1
  have hFR : FR = 1000000 := rfl
  obtain ⟨hp1, hp2⟩ := np_pow hk
  have h0 := h.t0
  have hLJ : Lo (rt_u I 108 14 0) I := Lo.of u14F (by decide)
  unfold fInns at hQ
  refine v_X12_inns _ _ _ _ (sX12_isLook (fun z4 => ⟨fun _ => ?_, fun q => absurd q (by decide)⟩) (fun z4 => ⟨fun q => absurd rfl q, fun _ => ?_⟩))
  · have hz := (inbD (k := 120) (by omega)).mp z4
    rw [if_pos hz] at hQ
    obtain ⟨n, hn, rfl⟩ := (inr_iff (by omega)).mp (inb_iff.mp hz)
    rw [cc_nI (by omega)] at hQ
    refine rt_loop (P := fun p => ∀ M r', MI B s m us kp mk row tx M → Lo M I → M 108 14 = 0 → (∀ q, q < p → M 128 q = nI (nearN s m n q)) → rt_AW G (d + 134) kX12_inns Q 16 [some (.ref 108), some (.int (nI n)), some (.int (nI p)), none, none, none] [] M L r') s.np ?_ ?_ _ _ h0 hLJ rt_u_at (fun q hq => by omega)
    · intro M r' h1 l1 i1 g1
      refine v_X12_inns_16 _ _ _ _ _ ⟨fun _ => ?_, fun z => absurd (by rw [h1.1.1]; exact Int32.le_refl _) z⟩
      have efull : ((1 : Int32) <<< (M 108 1 &&& 31)) = nI (2 ^ s.np) := by rw [h1.1.1]; exact full_bits hk
      have step : ∀ j, j < 2 ^ s.np → (∀ v, v = (if ((bmO s.np (srv s m n) j = -1 ∨ pc s.np j < pc s.np (bx s.np (srv s m n) j)) ∧ srv s m n j = true) then nI j else bmO s.np (srv s m n) j) → rt_AW G (d + 134) kX12_inns Q 90 [some (.ref 108), none, some (.int v), some (.int (nI (j + 1))), none, none] [] M L r') → rt_AW G (d + 134) kX12_inns Q 90 [some (.ref 108), none, some (.int (bmO s.np (srv s m n) j)), some (.int (nI j)), none, none] [] M L r' := by
        intro j hj hA
        have serve : ∀ p (ok : Bool), p ≤ s.np → (ok = true → ∀ q, q < p → ¬ nearN s m n q &&& j = 0) → (ok = false → ¬ ((bmO s.np (srv s m n) j = -1 ∨ pc s.np j < pc s.np (bx s.np (srv s m n) j)) ∧ srv s m n j = true)) → (ok = true → (bmO s.np (srv s m n) j = -1 ∨ pc s.np j < pc s.np (bx s.np (srv s m n) j))) → rt_AW G (d + 134) kX12_inns Q 126 [some (.ref 108), none, some (.int (bmO s.np (srv s m n) j)), some (.int (nI j)), some (.int (b2i ok)), some (.int (nI p))] [] M L r' := by
          intro p
          have hrec : ∀ g p (ok : Bool), g + p = s.np → (ok = true → ∀ q, q < p → ¬ nearN s m n q &&& j = 0) → (ok = false → ¬ ((bmO s.np (srv s m n) j = -1 ∨ pc s.np j < pc s.np (bx s.np (srv s m n) j)) ∧ srv s m n j = true)) → (ok = true → (bmO s.np (srv s m n) j = -1 ∨ pc s.np j < pc s.np (bx s.np (srv s m n) j))) → rt_AW G (d + 134) kX12_inns Q 126 [some (.ref 108), none, some (.int (bmO s.np (srv s m n) j)), some (.int (nI j)), some (.int (b2i ok)), some (.int (nI p))] [] M L r' := by
            intro g
            induction g with
            | zero =>
              intro p ok hg hq hf ht
              obtain rfl : p = s.np := by omega
              refine v_X12_inns_126 _ _ _ _ _ _ _ ⟨fun _ => ⟨fun z => ?_, fun z => ?_⟩, fun z => absurd (by rw [h1.1.1]; exact Int32.le_refl _) z⟩
              · rw [nI_1]
                exact hA _ (by rw [if_neg (hf (b2i_z.mp z))])
              · rw [nI_1]
                have hsr : srv s m n j = true := by
                  unfold srv
                  rw [allb_iff]
                  intro q hqn
                  rw [decide_eq_true_eq]
                  exact hq (b2i_t.mp z) q hqn
                exact hA _ (by rw [if_pos ⟨ht (b2i_t.mp z), hsr⟩])
            | succ g ihg =>
              intro p ok hg hq hf ht
              have hnl := near_lt (m := m) hk n p
              refine v_X12_inns_126 _ _ _ _ _ _ _ ⟨fun z => absurd ((n_le h1.1.1 rfl (by omega) (by omega)).mp z) (by omega), fun _ => ⟨fun z => ⟨fun z => ?_, fun y => absurd z y⟩, fun z => ⟨vp_nI rfl (by omega) (by omega), ?_⟩⟩⟩
              · rw [nI_1]
                exact hA _ (by rw [if_neg (hf (b2i_z.mp z))])
              · rw [cl (n := p) rfl (by omega), g1 p (by omega), nI_1]
                refine ⟨fun y => ?_, fun y => ?_⟩
                · refine ihg (p + 1) false (by omega) (fun q => by cases q) (fun _ a => ?_) (fun q => by cases q)
                  have := allb_iff.mp a.2 p (by omega)
                  rw [decide_eq_true_eq] at this
                  exact this ((and_0 (by omega)).mp y)
                · refine ihg (p + 1) true (by omega) (fun _ q hq2 => ?_) (fun q => by cases q) (fun _ => ht (b2i_t.mp z))
                  by_cases e : q = p
                  · rw [e]; exact fun a => y ((and_0 (by omega)).mpr a)
                  · exact hq (b2i_t.mp z) q (by omega)
          exact fun ok hp2 => hrec (s.np - p) p ok (by omega)
        have hb : anyb (srv s m n) j = true → bx s.np (srv s m n) j ≤ 2 ^ s.np - 1 := fun _ => bx_lt j (by omega)
        have q1 := pc_le s.np j
        have q2 := pc_le s.np (bx s.np (srv s m n) j)
        have hbj := bx_lt (np := s.np) (sv := srv s m n) j (by omega)
        refine v_X12_inns_90 _ _ _ _ _ ⟨fun z => absurd ((n_le rfl rfl (by omega) (by omega)).mp (show nI (2 ^ s.np) ≤ nI j by rw [← efull]; exact z)) (by omega), fun _ => ⟨fun z => serve 0 true (by omega) (fun _ q hq => by omega) (fun q => by cases q) (fun _ => Or.inl z), fun z => sJ6_pc hk (by omega) ?_⟩⟩
        have hany : anyb (srv s m n) j = true := by
          cases hh : anyb (srv s m n) j with
          | true => rfl
          | false => exact absurd (by unfold bmO; rw [hh]; rfl) z
        have hbm : bmO s.np (srv s m n) j = nI (bx s.np (srv s m n) j) := if_pos hany
        rw [hbm]
        refine sJ6_pc hk (by omega) ?_
        rw [← hbm]
        refine ⟨fun y => serve 0 false (by omega) (fun q => by cases q) (fun _ a => ?_) (fun q => by cases q), fun y => serve 0 true (by omega) (fun _ q hq => by omega) (fun q => by cases q) (fun _ => Or.inr ?_)⟩
        · have := (nI_leI (by omega) (by omega)).mp y
          rcases a.1 with a | a
          · exact z a
          · omega
        · have := mt (nI_leI (a := pc s.np (bx s.np (srv s m n) j)) (b := pc s.np j) (by omega) (by omega)).mpr y
          omega
      have endA : ∀ v, v = nI (innB s m n) → rt_AW G (d + 134) kX12_inns Q 90 [some (.ref 108), none, some (.int v), some (.int (nI (2 ^ s.np))), none, none] [] M L r' := by
        intro v hv
        have hbf := bx_lt (np := s.np) (sv := srv s m n) (2 ^ s.np - 1) (Nat.le_refl _)
        refine v_X12_inns_90 _ _ _ _ _ ⟨fun _ => ?_, fun z => absurd (by rw [efull]; exact Int32.le_refl _) z⟩
        rw [hv]
        refine gM_tell h1.c13 (by simp) (fun M4 h4 l4 j4 => sJ6_pc hk (by unfold innB; omega) (hQ M4 r' h4 (l4.trans (c13L.trans l1)) ?_))
        rw [j4 14 (by decide), rt_u1 (by decide)]
        exact i1
      have hcase : ∀ j, j ≤ 2 ^ s.np - 1 → rt_AW G (d + 134) kX12_inns Q 90 [some (.ref 108), none, some (.int (bmO s.np (srv s m n) j)), some (.int (nI j)), none, none] [] M L r' := by
        refine rt_down (P := fun j => rt_AW G (d + 134) kX12_inns Q 90 [some (.ref 108), none, some (.int (bmO s.np (srv s m n) j)), some (.int (nI j)), none, none] [] M L r') (n := 2 ^ s.np - 1) ?_ ?_
        · refine step _ (by omega) (fun v hv => ?_)
          rw [show 2 ^ s.np - 1 + 1 = 2 ^ s.np by omega]
          refine endA v ?_
          have hsf := srv_full (n := n) hk hm
          rw [hv]
          unfold innB
          by_cases hany : anyb (srv s m n) (2 ^ s.np - 1) = true
          · have hbm : bmO s.np (srv s m n) (2 ^ s.np - 1) = nI (bx s.np (srv s m n) (2 ^ s.np - 1)) := if_pos hany
            rw [hbm, if_neg]
            rintro ⟨a | a, -⟩
            · have := bx_lt (np := s.np) (sv := srv s m n) (2 ^ s.np - 1) (Nat.le_refl _)
              exact n_ne1 (by omega) a
            · rw [pc_full] at a
              have := pc_le s.np (bx s.np (srv s m n) (2 ^ s.np - 1))
              omega
          · have hf : anyb (srv s m n) (2 ^ s.np - 1) = false := by cases hh : anyb (srv s m n) (2 ^ s.np - 1) <;> simp_all
            rw [if_pos ⟨Or.inl (if_neg hany), hsf⟩, bx_no hf]
        · intro j hj ih
          refine step j (by omega) (fun v hv => ?_)
          have hn1 : ¬ (nI (bx s.np (srv s m n) j) = -1) := n_ne1 (by have := bx_lt (np := s.np) (sv := srv s m n) j (by omega); omega)
          have e : bmO s.np (srv s m n) (j + 1) = v := by
            rw [hv]
            unfold bmO
            rw [anyb_s, show bx s.np (srv s m n) (j + 1) = if pc s.np j < pc s.np (bx s.np (srv s m n) j) ∧ srv s m n j = true then j else bx s.np (srv s m n) j from rfl]
            cases hany : anyb (srv s m n) j with
            | true =>
              rw [Bool.true_or, if_pos rfl, if_pos rfl]
              by_cases hs : srv s m n j = true
              · by_cases hpc : pc s.np j < pc s.np (bx s.np (srv s m n) j)
                · rw [if_pos ⟨hpc, hs⟩, if_pos ⟨Or.inr hpc, hs⟩]
                · rw [if_neg (fun a => hpc a.1), if_neg (fun a => a.1.elim hn1 hpc)]
              · rw [if_neg (fun a => hs a.2), if_neg (fun a => hs a.2)]
            | false =>
              rw [Bool.false_or, bx_no hany, pc_full]
              have hpc := pc_lt (n := s.np) (k := j) (by omega)
              by_cases hs : srv s m n j = true
              · rw [hs, if_pos rfl, if_pos ⟨hpc, rfl⟩, if_pos (show (((if false = true then nI (2 ^ s.np - 1) else -1 : Int32) = -1 ∨ pc s.np j < s.np) ∧ true = true) from ⟨Or.inl rfl, rfl⟩)]
              · have hsf : srv s m n j = false := by cases hh : srv s m n j <;> simp_all
                simp [hsf]
          rw [e] at ih
          exact ih
      have := hcase 0 (by omega)
      exact this
    · intro p hp ih M r' h1 l1 i1 g1
      have hD := Ds_le hk hm 0 0 p (t := 0) (by omega)
      refine v_X12_inns_16 _ _ _ _ _ ⟨fun z => absurd ((n_le h1.1.1 rfl (by omega) (by omega)).mp z) (by omega), fun _ => gM_soon (mg := 0) (t := 0) h1 hk hm (by omega) hp (by omega) rfl rfl (fun M2 r2 h2 s2 l2 j2 q2 => ⟨vp_nI rfl (by omega) (by omega), ?_⟩)⟩
      rw [cl (n := p) rfl (by omega)]
      refine rt_loop (P := fun q => ∀ M3, Fr M3 M2 [128] → (∀ u, u < p → M3 128 u = nI (nearN s m n u)) → M3 128 p = bts (fun q => decide (Ds s m 0 0 p 0 q ≤ n)) q → rt_AW G (d + 134) kX12_inns Q 40 [some (.ref 108), some (.int (nI n)), some (.int (nI p)), some (.int (nI q)), none, none] [] M3 L r2) s.np ?_ ?_ _ ((Fr.refl _ _).u (by decide)) (fun u hu => by rw [rt_u1 (by omega), q2.1 128 (by decide)]; exact g1 u hu) rt_u_at
      · intro M3 f3 g3 e3
        have h3 : MI B s m us kp mk row tx M3 := h2.q (f3.mono (by decide)) (fun j _ => by rw [f3 108 (by decide)]) (by rw [f3 108 (by decide)]; exact h2.z28) (h2.2.2.2.2.2.1.fr (by rw [f3 108 (by decide)]) (f3 115 (by decide)))
        refine v_X12_inns_40 _ _ _ _ _ _ ⟨fun _ => ?_, fun z => absurd (by rw [h3.1.1]; exact Int32.le_refl _) z⟩
        rw [nI_1]
        refine ih M3 r2 h3 ((Lo.of f3 (by decide)).trans (l2.trans l1)) ?_ (fun u hu => ?_)
        · rw [f3 108 (by decide), j2 14 (by decide)]; exact i1
        · by_cases e : u = p
          · subst e
            rw [e3, bts_n (by omega)]
            rfl
          · exact g3 u (by omega)
      · intro q hq ih3 M3 f3 g3 e3
        have e1 : M3 108 1 = nI s.np := by rw [f3 108 (by decide)]; exact h2.1.1
        have hDq := hD q
        have hv1 : vp_in (nI p) 8 := vp_nI rfl (by omega) (by omega)
        have hst : ∀ x, x = bts (fun q => decide (Ds s m 0 0 p 0 q ≤ n)) (q + 1) → rt_AW G (d + 134) kX12_inns Q 40 [some (.ref 108), some (.int (nI n)), some (.int (nI p)), some (.int (nI (q + 1))), none, none] [] (rt_u M3 128 p x) L r2 := fun x hx => ih3 _ (f3.u (by decide)) (fun u hu => by rw [rt_u1 (by omega)]; exact g3 u hu) (by rw [rt_u_at, hx])
        have ebt : bts (fun q => decide (Ds s m 0 0 p 0 q ≤ n)) (q + 1) = if decide (Ds s m 0 0 p 0 q ≤ n) = true then bts (fun q => decide (Ds s m 0 0 p 0 q ≤ n)) q ||| (1 <<< (nI q &&& 31)) else bts (fun q => decide (Ds s m 0 0 p 0 q ≤ n)) q := rfl
        refine v_X12_inns_40 _ _ _ _ _ _ ⟨fun z => absurd ((n_le e1 rfl (by omega) (by omega)).mp z) (by omega), fun _ => ⟨hv1, vp_nI rfl (by omega) (by omega), ?_⟩⟩
        rw [cl (n := q) rfl (by omega), cl (n := p) rfl (by omega), f3 125 (by decide), s2 q (by omega), e3, nI_1]
        refine ⟨fun z => ⟨hv1, hst _ ?_⟩, fun z => ⟨hv1, hst _ ?_⟩⟩
        · have := (nI_ltI (by omega) (by omega)).mp z
          rw [ebt, if_neg (by simp; omega), Int32.or_zero]
        · have := mt (nI_ltI (a := n) (b := Ds s m 0 0 p 0 q) (by omega) (by omega)).mpr z
          rw [ebt, if_pos (by simp; omega)]
  · rw [if_neg (fun q => z4 ((inbD (k := 120) (by omega)).mpr q))] at hQ
    exact hQ _ _ h0 hLJ rt_u_at
end
