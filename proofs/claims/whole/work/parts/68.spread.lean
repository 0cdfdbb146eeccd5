/-! WAYS: the class spreads from a place -/
theorem shb : ∀ sh : Fin 256, ∀ p : Fin 8, (((nI sh.val >>> (nI p.val &&& 31)) &&& 1) = 0 ↔ sh.val.testBit p.val = false) := by decide +kernel
def updN (S : Nat → Nat) (q x : Nat) : Nat → Nat := fun p => if p = q then x else S p
def SS (S : Nat → Nat) (I : rt_I) : Prop := ∀ p, p < 8 → I 33 p = nI (S p)
def opn (sh : Nat) (p : Nat) : Bool := !sh.testBit p
def SPs (s : SV) (m : MO) (mg sh a t : Nat) (D : Nat → Nat) : Prop := SPd (2 * s.nr) (nfr m) (ntt m) (nar s m mg) (opn sh) a t D
def gbC (s : SV) (m : MO) (mg sh v : Nat) (S : Nat → Nat) : Bool := opn sh (ntt m v) && decide (nar s m mg v (S (nfr m v)) < S (ntt m v))
def gbS (s : SV) (m : MO) (mg sh v : Nat) (S : Nat → Nat) : Nat → Nat := if gbC s m mg sh v S = true then updN S (ntt m v) (nar s m mg v (S (nfr m v))) else S
theorem gbS_le {s : SV} {m : MO} {mg sh v : Nat} {S : Nat → Nat} (p : Nat) : gbS s m mg sh v S p ≤ S p := by
  unfold gbS
  split
  · rename_i z
    unfold gbC at z
    rw [Bool.and_eq_true, decide_eq_true_eq] at z
    unfold updN
    split
    · rename_i e; rw [e]; omega
    · exact Nat.le_refl _
  · exact Nat.le_refl _
theorem gbS_at {s : SV} {m : MO} {mg sh v : Nat} {S : Nat → Nat} (h : opn sh (ntt m v) = true) : gbS s m mg sh v S (ntt m v) ≤ nar s m mg v (S (nfr m v)) := by
  unfold gbS
  split
  · unfold updN
    rw [if_pos rfl]
    exact Nat.le_refl _
  · rename_i z
    unfold gbC at z
    rw [h, Bool.true_and, decide_eq_true_eq] at z
    omega
theorem gbS_ge {s : SV} {m : MO} {mg sh v a t : Nat} {S D : Nat → Nat} (hv : v < 2 * s.nr) (hD : SPs s m mg sh a t D) (h : ∀ p, D p ≤ S p) (p : Nat) : D p ≤ gbS s m mg sh v S p := by
  unfold gbS
  split
  · rename_i z
    unfold gbC at z
    rw [Bool.and_eq_true, decide_eq_true_eq] at z
    unfold updN
    split
    · rename_i e
      rw [e]
      have h1 := hD.2.2.1 v hv z.1
      have h2 := (nar_ok s m mg v hv).1 _ _ (h (nfr m v))
      omega
    · exact h p
  · exact h p
theorem gbS_F {s : SV} {m : MO} {mg sh v : Nat} {S : Nat → Nat} (h : gbC s m mg sh v S = false) : gbS s m mg sh v S = S := by unfold gbS; rw [if_neg (by rw [h]; decide)]
/-- how many places are sooner -/
def rk8 (D : Nat → Nat) (p : Nat) : Nat := cb (fun q => decide (D q < D p)) 8
theorem cb_sub {b b' : Nat → Bool} : ∀ {n}, (∀ k, k < n → b k = true → b' k = true) → cb b n ≤ cb b' n
  | 0, _ => Nat.le_refl _
  | n + 1, h => by
    have ih := cb_sub (b := b) (b' := b') (n := n) (fun k hk => h k (by omega))
    have := h n (by omega)
    rw [cb_s, cb_s]
    by_cases e : b n = true
    · rw [if_pos e, if_pos (this e)]; omega
    · rw [if_neg e]
      split <;> omega
theorem cb_lt {b b' : Nat → Bool} {q : Nat} : ∀ {n}, q < n → (∀ k, k < n → b k = true → b' k = true) → b q = false → b' q = true → cb b n < cb b' n
  | 0, h, _, _, _ => by omega
  | n + 1, hq, h, h1, h2 => by
    rw [cb_s, cb_s]
    by_cases e : q = n
    · subst e
      have := cb_sub (b := b) (b' := b') (n := q) (fun k hk => h k (by omega))
      rw [if_neg (by rw [h1]; decide), if_pos h2]
      omega
    · have ih := cb_lt (q := q) (n := n) (by omega) (fun k hk => h k (by omega)) h1 h2
      have := h n (by omega)
      by_cases e2 : b n = true
      · rw [if_pos e2, if_pos (this e2)]; omega
      · rw [if_neg e2]
        split <;> omega
theorem rk8_lt {D : Nat → Nat} {p q : Nat} (hq : q < 8) (h : D q < D p) : rk8 D q < rk8 D p := by
  unfold rk8
  refine cb_lt hq (fun k hk z => ?_) ?_ ?_
  · simp only [decide_eq_true_eq] at z ⊢; omega
  · simp
  · simpa using h
theorem rk8_7 {D : Nat → Nat} {p : Nat} (hp : p < 8) : rk8 D p ≤ 7 := by
  have h1 : cb (fun _ => true) 8 = 8 := rfl
  have h2 : rk8 D p < cb (fun _ => true) 8 := cb_lt hp (fun k hk z => rfl) (by simp) rfl
  omega
section
variable {G : rt_G} {d : Nat} {Q : rt_Q} {I : rt_I} {L : rt_L} {r B mg : Nat} {s : SV} {m : MO}
theorem sX10_goBetween {v p q sh : Nat} {x1 x2 x3 x4 : Int32} {S : Nat → Nat} (hk : sok s) (hv : v < 2 * s.nr) (hp : nfr m v = p) (hp8 : p < 8) (hq : ntt m v = q) (hq8 : q < 8) (hsh : sh < 256) (hT : WT s m I) (hO : WO s m mg I) (hS : SS S I) (hF : ∀ p, S p ≤ FR) (h1 : x1 = nI v) (h2 : x2 = nI p) (h3 : x3 = nI q) (h4 : x4 = nI sh)
    (hQ : ∀ M, Fr M I [33] → SS (gbS s m mg sh v S) M → Q (b2i (gbC s m mg sh v S)) M L r) : rt_Call G (d + 1) kX10_goBetween [.ref 29, .int x1, .int x2, .int x3, .int x4] I L r Q := by
  have h12 := hk.2.1
  have hFR : FR = 1000000 := rfl
  subst h1 h2 h3 h4
  have hs := shb ⟨sh, hsh⟩ ⟨q, hq8⟩
  have hno : gbC s m mg sh v S = false → Q 0 I L r := by
    intro z
    have := hQ I (Fr.refl _ _) (by rw [gbS_F z]; exact hS)
    rw [z] at this
    exact this
  obtain ⟨l1, l20, -⟩ := ntl_ex s m v
  refine v_X10_goBetween _ _ _ _ _ _ _ ⟨fun z => ⟨vp_nI rfl hp8 (by omega), ?_⟩, fun z => hno ?_⟩
  · have hop : opn sh q = true := by unfold opn; rw [hs.mp z]; rfl
    rw [cl (n := p) rfl (by omega), hS p hp8]
    refine sX10_outFrom hk hv hO rfl rfl (hF p) ⟨fun y => hno ?_, fun y => ⟨vp_nI rfl (by omega) (by omega), vp_nI rfl hq8 (by omega), ?_⟩⟩
    · have e : dep (nok s m mg v) (S p) = FR := (n_eq (b := FR) rfl rfl (by have := dep_le (ok := nok s m mg v) (t := S p); omega) (by omega)).mp y
      unfold gbC nar arr
      rw [hp, hq, if_pos e]
      have := hF q
      rw [show decide (FR < S q) = false by simp; omega, Bool.and_false]
    · have e : ¬ dep (nok s m mg v) (S p) = FR := fun e => y (by rw [e]; rfl)
      have har : nar s m mg v (S p) = dep (nok s m mg v) (S p) + ntl s m v := by unfold nar arr; rw [if_neg e]
      have hdl := dep_le (ok := nok s m mg v) (t := S p)
      rw [cl (n := v) rfl (by omega), cl (n := q) rfl (by omega), hT v hv, nI_add, hS q hq8, ← har]
      have hFq := hF q
      refine ⟨fun z2 => ⟨vp_nI rfl (by omega) (by omega), vp_nI rfl hq8 (by omega), ?_⟩, fun z2 => hno ?_⟩
      · have hlt := (nI_ltI (by omega) (by omega)).mp z2
        have hc : gbC s m mg sh v S = true := by unfold gbC; rw [hp, hq, hop, Bool.true_and]; simpa using hlt
        have := hQ (rt_u I 33 q (nI (nar s m mg v (S p)))) ((Fr.refl _ _).u (by decide)) (fun k hk8 => by
          unfold gbS updN
          rw [if_pos hc, hp, hq]
          by_cases e2 : k = q
          · subst e2; rw [rt_u_at, if_pos rfl]
          · rw [rt_u1 e2, if_neg e2]; exact hS k hk8)
        rw [hc] at this
        exact this
      · have hlt := mt (nI_ltI (a := nar s m mg v (S p)) (b := S q) (by omega) (by omega)).mpr z2
        unfold gbC
        rw [hp, hq, show decide (nar s m mg v (S p) < S q) = false by simp; omega, Bool.and_false]
  · unfold gbC opn
    rw [hq]
    have : ¬ sh.testBit q = false := fun e => z (hs.mpr e)
    cases hh : sh.testBit q with
    | false => exact absurd hh this
    | true => rfl
theorem wX10_spread {a t sh : Nat} {x1 x2 x3 : Int32} {D : Nat → Nat} (hSX : XZ s I) (hk : sok s) (hM : XMo s m I 16) (hm : mok s B m) (ha : a < s.np) (hsh : sh < 256) (ht : t ≤ FR) (hD : SPs s m mg sh a t D) (hT : WT s m I) (hO : WO s m mg I) (h1 : x1 = nI a) (h2 : x2 = nI t) (h3 : x3 = nI sh)
    (hQ : ∀ M, Fr M I [33] → SS D M → Q 0 M L r) : rt_Call G (d + 2) kX10_spread [.ref 29, .int x1, .int x2, .int x3] I L r Q := by
  have h12 := hk.2.1
  have h8 := hk.1
  have hFR : FR = 1000000 := rfl
  subst h1 h2 h3
  have keep : ∀ M, Fr M I [33] → XZ s M ∧ XMo s m M 16 ∧ WT s m M ∧ WO s m mg M := fun M hf => ⟨hSX.frq hf (by decide), hM.fr (by rw [hf 16 (by decide)]) (hf 17 (by decide)) (hf 18 (by decide)) (hf 19 (by decide)), fun v hv => by rw [hf 30 (by decide)]; exact hT v hv, fun v hv t ht => by rw [hf 31 (by decide)]; exact hO v hv t ht⟩
  refine v_X10_spread _ _ _ _ _ _ (fill_soon (fun M0 f0 g0 => ⟨vp_nI rfl (by omega) (by omega), ?_⟩))
  rw [cl (n := a) rfl (by omega)]
  have hpred : ∀ p, p ≠ a → D p < FR → ∃ v, v < 2 * s.nr ∧ ntt m v = p ∧ opn sh p = true ∧ D p = nar s m mg v (D (nfr m v)) ∧ rk8 D (nfr m v) < rk8 D p := by
    intro p hp hlt
    obtain ⟨v, hv, e1, e2, e3⟩ := hD.2.2.2 p hp hlt
    refine ⟨v, hv, e1, e2, e3, rk8_lt (by have := (net_pl hk hm hv).1; omega) ?_⟩
    rcases (nar_ok s m mg v hv).2 (D (nfr m v)) with z | z <;> omega
  have outer : ∀ g i (c : Bool) (S : Nat → Nat) M, g + i = 8 → Fr M I [33] → SS S M → (∀ p, D p ≤ S p ∧ S p ≤ FR) → (∀ p, D p < FR → rk8 D p ≤ i → S p = D p) → (c = false → ∀ p, p < 8 → S p = D p) → rt_AW G (d + 2) kX10_spread Q 22 [some (.ref 29), none, none, some (.int (nI sh)), some (.int (b2i c)), some (.int (nI i)), none, none, none, none, none] [] M L r := by
    intro g
    induction g with
    | zero =>
      intro i c S M hg hf hS hb hr hc
      obtain rfl : i = 8 := by omega
      refine v_X10_spread_22 _ _ _ _ _ _ ⟨fun _ => hQ M hf (fun p hp => ?_), fun z => absurd (by decide) z⟩
      rw [hS p hp]
      congr 1
      by_cases q : D p < FR
      · exact hr p q (by have := rk8_7 (D := D) hp; omega)
      · have := hb p
        omega
    | succ g ih =>
      intro i c S M hg hf hS hb hr hc
      refine v_X10_spread_22 _ _ _ _ _ _ ⟨fun z => absurd ((n_le (a := 8) (b := i) rfl rfl (by omega) (by omega)).mp z) (by omega), fun _ => ⟨fun z => hQ M hf (fun p hp => by rw [hS p hp, hc (b2i_z.mp z) p hp]), fun _ => ?_⟩⟩
      refine rt_loop (P := fun w => ∀ (S' : Nat → Nat) (c' : Bool) M, Fr M I [33] → SS S' M → (∀ p, D p ≤ S' p ∧ S' p ≤ S p) → (∀ v, v < 2 * w → opn sh (ntt m v) = true → S' (ntt m v) ≤ nar s m mg v (S (nfr m v))) → (c' = false → ∀ p, S' p = S p) → rt_AW G (d + 2) kX10_spread Q 40 [some (.ref 29), none, none, some (.int (nI sh)), some (.int (b2i c')), some (.int (nI i)), some (.int (nI w)), none, none, none, none] [] M L r) s.nr ?_ ?_ S false M hf hS (fun p => ⟨(hb p).1, Nat.le_refl _⟩) (fun v hv => absurd hv (by omega)) (fun _ _ => rfl)
      · intro S' c' M hf hS' hb' hv' hc'
        obtain ⟨k1, k2, k3, k4⟩ := keep M hf
        refine v_X10_spread_40 _ _ _ _ _ _ _ ⟨fun _ => ?_, fun z => absurd (by rw [k1.2.1]; exact Int32.le_refl _) z⟩
        rw [nI_1]
        refine ih (i + 1) c' S' M (by omega) hf hS' (fun p => ⟨(hb' p).1, Nat.le_trans (hb' p).2 (hb p).2⟩) (fun p hp hrk => ?_) (fun hcf p hp => ?_)
        · by_cases q : p = a
          · have ra : rk8 D p ≤ i := by
              have : rk8 D a = 0 := by
                have h0 : ∀ k, k < 8 → (fun q => decide (D q < D a)) k = (fun _ => false) k := fun k _ => by
                  have := SPd.ge (nar_ok s m mg) ht hD k
                  have h1 := hD.1
                  simp; omega
                unfold rk8
                rw [cb_congr h0]
                rfl
              rw [q, this]; omega
            have := hr p hp ra
            have := hb' p
            omega
          · obtain ⟨v, hv, e1, e2, e3, e4⟩ := hpred p q hp
            have hy : S (nfr m v) = D (nfr m v) := by
              refine hr _ ?_ (by omega)
              rcases (nar_ok s m mg v hv).2 (D (nfr m v)) with z | z <;> omega
            have h5 := hv' v hv (by rw [e1]; exact e2)
            rw [e1, hy, ← e3] at h5
            have := (hb' p).1
            omega
        · have hst : ∀ v, v < 2 * s.nr → opn sh (ntt m v) = true → S' (ntt m v) ≤ nar s m mg v (S' (nfr m v)) := fun v hv ho => by
            rw [hc' hcf (nfr m v)]
            exact hv' v hv ho
          have hSa : S' a ≤ t := by
            have hra : rk8 D a ≤ i := by
              have : rk8 D a = 0 := by
                have h0 : ∀ k, k < 8 → (fun q => decide (D q < D a)) k = (fun _ => false) k := fun k _ => by
                  have := SPd.ge (nar_ok s m mg) ht hD k
                  have h1 := hD.1
                  simp; omega
                unfold rk8
                rw [cb_congr h0]
                rfl
              omega
            by_cases q : D a < FR
            · have := hr a q hra
              have := hb' a
              have := hD.1
              omega
            · have := (hb a).2
              have := (hb' a).2
              have := hD.1
              omega
          have hle := SPd.le (op := opn sh) (nar_ok s m mg) (fun _ q => q) hD (E := S') (fun p => Nat.le_trans (hb' p).2 (hb p).2) hst hSa p
          have := (hb' p).1
          omega
      · intro w hw ih2 S' c' M hf hS' hb' hv' hc'
        obtain ⟨k1, k2, k3, k4⟩ := keep M hf
        obtain ⟨p1, p2, p3, p4, p5⟩ := ends_ok hk hm hw
        obtain ⟨n1, n2, n3, n4⟩ := net_e m w
        have hvw : vp_in (nI w) 12 := vp_nI rfl (by omega) (by omega)
        have e18 : M 18 w = nI (ea m w) := (k2.2.2.1 w hw).trans p4
        have e19 : M 19 w = nI (eb m w) := (k2.2.2.2 w hw).trans p5
        refine v_X10_spread_40 _ _ _ _ _ _ _ ⟨fun z => absurd ((n_le k1.2.1 rfl (by omega) (by omega)).mp z) (by omega), fun _ => ⟨hvw, hvw, ?_⟩⟩
        rw [cl (n := w) rfl (by omega), e18, e19, n2w, nI_1, nI_1]
        refine sX10_goBetween (v := 2 * w) hk (by omega) n1 (by omega) n2 (by omega) hsh k3 k4 hS' (fun p => Nat.le_trans (hb' p).2 (hb p).2) rfl rfl rfl rfl (fun M1 f1 g1 => ?_)
        obtain ⟨j1, j2, j3, j4⟩ := keep M1 (f1.trans hf)
        refine sX10_goBetween (v := 2 * w + 1) hk (by omega) n3 (by omega) n4 (by omega) hsh j3 j4 g1 (fun p => Nat.le_trans (gbS_le _) (Nat.le_trans (hb' p).2 (hb p).2)) rfl rfl rfl rfl (fun M2 f2 g2 => ?_)
        have fin := fun (c2 : Bool) (hc2 : c2 = false → c' = false ∧ gbC s m mg sh (2 * w) S' = false ∧ gbC s m mg sh (2 * w + 1) (gbS s m mg sh (2 * w) S') = false) => ih2 (gbS s m mg sh (2 * w + 1) (gbS s m mg sh (2 * w) S')) c2 M2 (f2.trans (f1.trans hf)) g2 (fun p => ⟨gbS_ge (by omega) hD (fun p => gbS_ge (by omega) hD (fun p => (hb' p).1) p) p, Nat.le_trans (gbS_le _) (Nat.le_trans (gbS_le _) (hb' p).2)⟩) (fun v hv ho => by
          by_cases e : v = 2 * w + 1
          · subst e
            refine Nat.le_trans (gbS_at ho) ((nar_ok s m mg _ (by omega)).1 _ _ ?_)
            exact Nat.le_trans (gbS_le _) (hb' _).2
          · by_cases e2 : v = 2 * w
            · subst e2
              refine Nat.le_trans (gbS_le _) (Nat.le_trans (gbS_at ho) ((nar_ok s m mg _ (by omega)).1 _ _ (hb' _).2))
            · exact Nat.le_trans (gbS_le _) (Nat.le_trans (gbS_le _) (hv' v (by omega) ho))) (fun hcf p => by
          obtain ⟨q1, q2, q3⟩ := hc2 hcf
          rw [gbS_F q3, gbS_F q2]
          exact hc' q1 p)
        refine ⟨fun z => fin true (fun q => by cases q), fun z => ⟨fun z2 => fin true (fun q => by cases q), fun z2 => ⟨fun z3 => fin false (fun _ => ⟨b2i_z.mp z, b2i_z.mp z2, b2i_z.mp z3⟩), fun z3 => fin true (fun q => by cases q)⟩⟩⟩
  refine outer 8 0 true (updN (fun _ => FR) a t) _ (by omega) (f0.u (by decide)) (fun p hp => ?_) (fun p => ?_) (fun p hp hrk => ?_) (fun q => by cases q)
  · unfold updN
    by_cases e : p = a
    · subst e; rw [rt_u_at, if_pos rfl]
    · rw [rt_u1 e, if_neg e, g0 p hp]; rfl
  · unfold updN
    split
    · rename_i e
      rw [e, hD.1]
      exact ⟨Nat.le_refl _, ht⟩
    · exact ⟨hD.2.1 p, Nat.le_refl _⟩
  · unfold updN
    split
    · rename_i e
      rw [e, hD.1]
    · rename_i e
      obtain ⟨v, hv, e1, e2, e3, e4⟩ := hpred p e hp
      omega
theorem wX10_reachedBy {x : Int32} {D : Nat → Nat} {k : Nat} (hS : XZ s I) (hk : sok s) (hD : SS D I) (hF : ∀ p, D p ≤ FR) (hx : x = nI k) (hk2 : k ≤ 120) (hQ : Q (bts (fun p => decide (D p ≤ k)) s.np) I L r) : rt_Call G d kX10_reachedBy [.ref 29, .int x] I L r Q := by
  have h8 := hk.1
  have hFR : FR = 1000000 := rfl
  subst hx
  refine v_X10_reachedBy _ _ _ _ (rt_loop (P := fun p => rt_AW G d kX10_reachedBy Q 4 [some (.ref 29), some (.int (nI k)), some (.int (bts (fun p => decide (D p ≤ k)) p)), some (.int (nI p))] [] I L r) s.np ?_ ?_)
  · exact v_X10_reachedBy_4 _ _ _ _ _ _ ⟨fun _ => hQ, fun z => absurd (by rw [hS.1]; exact Int32.le_refl _) z⟩
  · intro p hp ih
    have hFp := hF p
    refine v_X10_reachedBy_4 _ _ _ _ _ _ ⟨fun z => absurd ((n_le hS.1 rfl (by omega) (by omega)).mp z) (by omega), fun _ => ⟨vp_nI rfl (by omega) (by omega), ?_⟩⟩
    rw [cl (n := p) rfl (by omega), hD p (by omega), nI_1]
    rw [show bts (fun p => decide (D p ≤ k)) (p + 1) = if (decide (D p ≤ k)) = true then bts (fun p => decide (D p ≤ k)) p ||| (1 <<< (nI p &&& 31)) else bts (fun p => decide (D p ≤ k)) p from rfl] at ih
    refine ⟨fun z => ?_, fun z => ?_⟩
    · have := (nI_ltI (by omega) (by omega)).mp z
      rw [if_neg (by simp; omega)] at ih; exact ih
    · have := mt (nI_ltI (a := k) (b := D p) (by omega) (by omega)).mpr z
      rw [if_pos (by simp; omega)] at ih; exact ih
end
