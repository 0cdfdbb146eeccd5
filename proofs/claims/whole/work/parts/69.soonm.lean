/-! WAYS: the model finds how soon one is where -/
theorem shb1 : ∀ sh : Fin 256, ∀ p : Fin 8, (((nI sh.val >>> (nI p.val &&& 31)) &&& 1) = 1 ↔ sh.val.testBit p.val = true) := by decide +kernel
theorem tb_set (n j i : Nat) : (n ||| 2 ^ j).testBit i = (n.testBit i || decide (i = j)) := by
  rw [Nat.testBit_or, Nat.testBit_two_pow]
  congr 1
  exact decide_eq_decide.mpr ⟨fun e => e.symm, fun e => e.symm⟩
theorem or_lt {n j : Nat} (hn : n < 256) (hj : j < 8) : n ||| 2 ^ j < 256 := Nat.or_lt_two_pow (n := 8) hn (Nat.lt_of_lt_of_le (Nat.pow_lt_pow_right (by omega) hj) (by decide))
theorem or_nI {n j : Nat} (hj : j < 8) : nI n ||| ((1 : Int32) <<< (nI j &&& 31)) = nI (n ||| 2 ^ j) := by rw [bit_nI (by omega), nI_or]
theorem min_nI {a b : Nat} (ha : a < 2 ^ 31) (hb : b < 2 ^ 31) : rt_min (nI a) (nI b) = nI (min a b) := by
  unfold rt_min
  by_cases h : b < a
  · rw [if_pos (nI_lt h ha), Nat.min_eq_right (by omega)]
  · rw [if_neg (nI_nlt (by omega) hb), Nat.min_eq_left (by omega)]
theorem cb_all {b : Nat → Bool} : ∀ {n}, cb b n = n → ∀ k, k < n → b k = true
  | 0, _, k, hk => by omega
  | n + 1, h, k, hk => by
    have hle := cb_le b n
    rw [cb_s] at h
    by_cases e : b n = true
    · rw [if_pos e] at h
      by_cases q : k = n
      · rw [q]; exact e
      · exact cb_all (n := n) (by omega) k (by omega)
    · rw [if_neg e] at h
      omega
theorem way_of {s : SV} {m : MO} {B w p : Nat} (hk : sok s) (hm : mok s B m) (hw : w < s.nr) (hp : p < 8) : (fe m w (nI p) = -1 ∧ ∀ v, v / 2 = w → nfr m v ≠ p) ∨ ∃ v, v < 2 * s.nr ∧ v / 2 = w ∧ nfr m v = p ∧ fe m w (nI p) = nI (ntt m v) ∧ ∀ u, u / 2 = w → nfr m u = p → u = v := by
  obtain ⟨p1, p2, p3, p4, p5⟩ := ends_ok hk hm hw
  obtain ⟨n1, n2, n3, n4⟩ := net_e m w
  have h8 := hk.1
  have two : ∀ v, v / 2 = w → v = 2 * w ∨ v = 2 * w + 1 := fun v h => by omega
  unfold fe fend
  rw [p4, p5]
  by_cases h1 : ea m w = p
  · refine Or.inr ⟨2 * w, by omega, by omega, by rw [n1]; exact h1, ?_, fun u hu hp2 => ?_⟩
    · rw [if_pos (by rw [h1]), n2]
    · rcases two u hu with e | e
      · exact e
      · rw [e, n3] at hp2
        exact absurd (h1.trans hp2.symm) p3
  · by_cases h2 : eb m w = p
    · refine Or.inr ⟨2 * w + 1, by omega, by omega, by rw [n3]; exact h2, ?_, fun u hu hp2 => ?_⟩
      · rw [if_neg (fun e => h1 ((nI_eq (by omega) (by omega)).mp e)), if_pos (by rw [h2]), n4]
      · rcases two u hu with e | e
        · rw [e, n1] at hp2
          exact absurd hp2 h1
        · exact e
    · refine Or.inl ⟨?_, fun v hv hp2 => ?_⟩
      · rw [if_neg (fun e => h1 ((nI_eq (by omega) (by omega)).mp e)), if_neg (fun e => h2 ((nI_eq (by omega) (by omega)).mp e))]
      · rcases two v hv with e | e
        · rw [e, n1] at hp2; exact h1 hp2
        · rw [e, n3] at hp2; exact h2 hp2
theorem dep_hi {s : SV} {m : MO} {mg v t : Nat} (h : 120 < t + ntl s m v) : dep (nok s m mg v) t = FR := by
  rcases dep_spec (nok s m mg v) t with ⟨a, b⟩ | ⟨a, b, c, e⟩
  · exact a
  · have := nok_le c
    omega
section
variable {G : rt_G} {d : Nat} {Q : rt_Q} {I : rt_I} {L : rt_L} {r B mg : Nat} {s : SV} {m : MO}
theorem sX12_has {sh p : Nat} {x y : Int32} (hx : x = nI sh) (hsh : sh < 256) (hy : y = nI p) (hp : p < 8) (h1 : sh.testBit p = true → Q 1 I L r) (h0 : sh.testBit p = false → Q 0 I L r) : rt_Call G d kX12_has [.int x, .int y] I L r Q := by
  subst hx hy
  have h := shb1 ⟨sh, hsh⟩ ⟨p, hp⟩
  refine v_X12_has _ _ _ _ _ ⟨fun z => h0 ?_, fun z => h1 (h.mp z)⟩
  cases hh : sh.testBit p with
  | false => rfl
  | true => exact absurd (h.mpr hh) z
theorem sX12_canGo {w l t : Nat} {x1 x2 x3 : Int32} (hS : MZ s I) (hk : sok s) (hM : MMo s m (I 109)) (hmg : mg ≤ 20) (hl : l ≤ 20) (h1 : x1 = nI w) (hw : w < s.nr) (h2 : x2 = nI t) (h3 : x3 = nI l)
    (hy : allb (fun j => tht s m w (t + j)) (l + mg) = true → Q 1 I L r) (hn : ¬ allb (fun j => tht s m w (t + j)) (l + mg) = true → Q 0 I L r) : rt_Call G (d + 4) kX12_canGo [.ref 108, .int x1, .int x2, .int x3, .int (nI mg)] I L r Q := by
  subst h1 h2 h3
  refine v_X12_canGo _ _ _ _ _ _ _ (rt_loop (P := fun k => allb (fun j => tht s m w (t + j)) k = true → rt_AW G (d + 4) kX12_canGo Q 3 [some (.ref 108), some (.int (nI w)), some (.int (nI t)), some (.int (nI l)), some (.int (nI mg)), some (.int (nI k))] [] I L r) (l + mg) ?_ ?_ rfl)
  · intro h
    exact v_X12_canGo_3 _ _ _ _ _ _ _ _ ⟨fun _ => hy h, fun z => absurd (by rw [nI_add]; exact Int32.le_refl _) z⟩
  · intro k hkn ih h
    refine v_X12_canGo_3 _ _ _ _ _ _ _ _ ⟨fun z => absurd ((nI_leI (a := l + mg) (b := k) (by omega) (by omega)).mp (by rw [nI_add] at z; exact z)) (by omega), fun _ => ?_⟩
    rw [nI_add, nI_1]
    refine wX12_comesIn hS hk hM rfl hw (fun q => ⟨fun _ => ih ?_, fun y => absurd y (by decide)⟩) (fun q => ⟨fun y => absurd rfl y, fun _ => hn (fun y => ?_)⟩)
    · show (allb (fun j => tht s m w (t + j)) k && tht s m w (t + k)) = true
      rw [h]; exact q
    · have := allb_iff.mp y k hkn
      rw [show tht s m w (t + k) = false from q] at this
      cases this
/-- what a question about ways may change in the model -/
def Mq (M I : rt_I) : Prop := Fr M I [108, 121, 125] ∧ F8 M I [16, 17, 18, 19, 28] ∧ M 108 28 = I 108 28
theorem Mq.refl (I : rt_I) : Mq I I := ⟨Fr.refl _ _, F8.refl _ _, rfl⟩
theorem Mq.trans {A B C : rt_I} (h1 : Mq A B) (h2 : Mq B C) : Mq A C := ⟨h1.1.trans h2.1, h1.2.1.trans h2.2.1, h1.2.2.trans h2.2.2⟩
theorem Mq.S {M I : rt_I} (h : Mq M I) (hS : MZ s I) : MZ s M := hS.fr (fun j hj => h.2.1 j (by
  simp only [List.mem_cons, List.not_mem_nil, or_false] at hj ⊢
  omega)) (h.2.2.trans hS.2.2.2.2.2.2.2.2.2.2) (h.1 110 (by decide)) (h.1 111 (by decide)) (h.1 112 (by decide)) (h.1 113 (by decide)) (h.1 120 (by decide))
theorem TQ.w {M I : rt_I} (h : TQ M I) (hS : MZ s I) : Mq M I := ⟨h.1.mono (by decide), h.2.1, h.2.2.trans hS.2.2.2.2.2.2.2.2.2.2.symm⟩
theorem Mq.u {M I : rt_I} (h : Mq M I) {j : Nat} {v : Int32} : Mq (rt_u M 125 j v) I := ⟨h.1.u (by decide), h.2.1.u (fun q => by omega), (rt_u2 (by decide)).trans h.2.2⟩
theorem Mq.M {M I : rt_I} (h : Mq M I) (hM : MMo s m (I 109)) : MMo s m (M 109) := by rw [h.1 109 (by decide)]; exact hM
theorem wX12_soonestBy {v t : Nat} {x1 x2 x3 x4 : Int32} (hS : MZ s I) (hk : sok s) (hM : MMo s m (I 109)) (hm : mok s B m) (hmg : mg ≤ 20) (hv : v < 2 * s.nr) (h1 : x1 = nI (v / 2)) (h2 : x2 = nI (nfr m v)) (h3 : x3 = nI (ntt m v)) (h4 : x4 = nI t) (ht : t ≤ FR)
    (hQ : ∀ M r', TQ M I → Q (nI (nar s m mg v t)) M L r') : rt_Call G (d + 132) kX12_soonestBy [.ref 108, .int x1, .int x2, .int x3, .int x4, .int (nI mg)] I L r Q := by
  have hFR : FR = 1000000 := rfl
  obtain ⟨l1, l20, el⟩ := ntl_ex s m v
  obtain ⟨p1, p2⟩ := net_pl hk hm hv
  subst h4
  refine v_X12_soonestBy _ _ _ _ _ _ _ _ (wX12_turnsOf hS hk h1 (by omega) h2 p1 h3 p2 (fun M r' hT => ?_))
  have hS' := hT.S hS
  have hM' : MMo s m (M 109) := by rw [hT.1 109 (by decide)]; exact hM
  rw [el]
  subst h1
  have key : ∀ g k, 121 ≤ g + k → t ≤ k → k ≤ FR → dep (nok s m mg v) t = dep (nok s m mg v) k → rt_AW G (d + 132) kX12_soonestBy Q 14 [some (.ref 108), some (.int (nI (v / 2))), none, none, none, some (.int (nI mg)), some (.int (nI (ntl s m v))), some (.int (nI k))] [] M L r' := by
    intro g
    induction g with
    | zero =>
      intro k hg htk hkF e
      refine v_X12_soonestBy_14 _ _ _ _ _ _ _ ⟨fun _ => ?_, fun z => absurd (by rw [nI_add]; exact nI_lt (a := 120) (by omega) (by omega)) z⟩
      have hd : dep (nok s m mg v) t = FR := by rw [e]; exact dep_121 (by omega)
      have := hQ M r' hT
      unfold nar arr at this
      rw [if_pos hd] at this
      exact this
    | succ g ih =>
      intro k hg htk hkF e
      refine v_X12_soonestBy_14 _ _ _ _ _ _ _ ⟨fun z => ?_, fun z => ?_⟩
      · rw [nI_add] at z
        have h120 := (n_lt (a := 120) rfl rfl (by omega) (by omega)).mp z
        have hd : dep (nok s m mg v) t = FR := by rw [e]; exact dep_hi h120
        have := hQ M r' hT
        unfold nar arr at this
        rw [if_pos hd] at this
        exact this
      · rw [nI_add] at z ⊢
        have h120 := mt (n_lt (a := 120) (b := k + ntl s m v) rfl rfl (by omega) (by omega)).mpr z
        have hnok : nok s m mg v k = true ↔ allb (fun j => tht s m (v / 2) (k + j)) (ntl s m v + mg) = true := by
          unfold nok
          rw [Bool.and_eq_true, decide_eq_true_eq]
          exact ⟨fun q => q.2, fun q => ⟨by omega, q⟩⟩
        refine sX12_canGo hS' hk hM' hmg l20 rfl (by omega) rfl rfl (fun q => ⟨fun y => absurd y (by decide), fun _ => ?_⟩) (fun q => ⟨fun _ => ?_, fun y => absurd rfl y⟩)
        · have hd : dep (nok s m mg v) t = k := by rw [e, dep_s (by omega), if_pos (hnok.mpr q)]
          have := hQ M r' hT
          unfold nar arr at this
          rw [if_neg (by omega), hd] at this
          exact this
        · rw [nI_1]
          exact ih (k + 1) (by omega) (by omega) (by omega) (by rw [e, dep_s (by omega), if_neg (mt hnok.mp q)])
  exact key 121 t (by omega) (Nat.le_refl _) ht rfl
def SM (S : Nat → Nat) (I : rt_I) : Prop := ∀ p, p < 8 → I 125 p = nI (S p)
theorem SM.u {S : Nat → Nat} {q x : Nat} {M : rt_I} (h : SM S M) : SM (updN S q x) (rt_u M 125 q (nI x)) := fun p hp => by
  unfold updN
  by_cases e : p = q
  · subst e; rw [rt_u_at, if_pos rfl]
  · rw [rt_u1 e, if_neg e]; exact h p hp
theorem opn0 (p : Nat) : opn 0 p = true := by unfold opn; simp
theorem wX12_findSoon {a t : Nat} {x1 x2 : Int32} {D : Nat → Nat} (hS : MZ s I) (hk : sok s) (hM : MMo s m (I 109)) (hm : mok s B m) (hmg : mg ≤ 20) (ha : a < s.np) (ht : t ≤ FR) (hD : SPs s m mg 0 a t D) (h1 : x1 = nI a) (h2 : x2 = nI t)
    (hQ : ∀ M r', Mq M I → SM D M → Q 0 M L r') : rt_Call G (d + 133) kX12_findSoon [.ref 108, .int x1, .int x2, .int (nI mg)] I L r Q := by
  have h12 := hk.2.1
  have h8 := hk.1
  have hFR : FR = 1000000 := rfl
  subst h1 h2
  have keep : ∀ M, Mq M I → MZ s M ∧ MMo s m (M 109) := fun M hf => ⟨hf.S hS, hf.M hM⟩
  have hge := SPd.ge (nar_ok s m mg) ht hD
  have hpred : ∀ p, p ≠ a → D p < FR → ∃ v, v < 2 * s.nr ∧ ntt m v = p ∧ D p = nar s m mg v (D (nfr m v)) ∧ D (nfr m v) < D p := by
    intro p hp hlt
    obtain ⟨v, hv, e1, e2, e3⟩ := hD.2.2.2 p hp hlt
    refine ⟨v, hv, e1, e3, ?_⟩
    rcases (nar_ok s m mg v hv).2 (D (nfr m v)) with z | z <;> omega
  -- what is not settled waits on something that is, and is not done yet
  have hwait : ∀ (S : Nat → Nat) (dn : Nat), (∀ p, D p ≤ S p ∧ S p ≤ FR) → S a = D a → (∀ v, v < 2 * s.nr → dn.testBit (nfr m v) = true → S (ntt m v) ≤ nar s m mg v (D (nfr m v))) → ∀ x q, D q ≤ x → D q < S q → ∃ y, y < s.np ∧ dn.testBit y = false ∧ S y = D y ∧ S y < D q := by
    intro S dn hb hSa hrel x
    induction x with
    | zero =>
      intro q hx hlt
      have hqa : q ≠ a := fun e => by rw [e, hSa] at hlt; omega
      obtain ⟨v, hv, e1, e3, e4⟩ := hpred q hqa (by have := hb q; omega)
      omega
    | succ x ih =>
      intro q hx hlt
      have hqa : q ≠ a := fun e => by rw [e, hSa] at hlt; omega
      obtain ⟨v, hv, e1, e3, e4⟩ := hpred q hqa (by have := hb q; omega)
      have hun : dn.testBit (nfr m v) = false := by
        cases hh : dn.testBit (nfr m v) with
        | false => rfl
        | true =>
          have := hrel v hv hh
          rw [e1] at this
          omega
      have hbv := hb (nfr m v)
      by_cases e : S (nfr m v) = D (nfr m v)
      · exact ⟨nfr m v, (net_pl hk hm hv).1, hun, e, by omega⟩
      · obtain ⟨y, y1, y2, y3, y4⟩ := ih (nfr m v) (by omega) (by omega)
        exact ⟨y, y1, y2, y3, by omega⟩
  have hDhi : ∀ p, p ≠ a → s.np ≤ p → D p = FR := by
    intro p hp hnp
    by_cases q : D p < FR
    · obtain ⟨v, hv, e1, -⟩ := hpred p hp q
      have := (net_pl hk hm hv).2
      omega
    · have := hD.2.1 p
      omega
  have outer : ∀ g i (dn : Nat) (S : Nat → Nat) M r', g + i = s.np → Mq M I → SM S M → dn < 256 → cb (fun p => dn.testBit p) s.np = i → (∀ p, D p ≤ S p ∧ S p ≤ FR) → S a = D a → (∀ p, dn.testBit p = true → S p = D p) → (∀ v, v < 2 * s.nr → dn.testBit (nfr m v) = true → S (ntt m v) ≤ nar s m mg v (D (nfr m v))) → rt_AW G (d + 133) kX12_findSoon Q 42 [some (.ref 108), none, none, some (.int (nI mg)), some (.int (nI dn)), some (.int (nI i)), none, none, none] [] M L r' := by
    intro g
    induction g with
    | zero =>
      intro i dn S M r' hg hf hSM hdn hcnt hb hSa hset hrel
      obtain rfl : i = s.np := by omega
      obtain ⟨k1, k2⟩ := keep M hf
      refine v_X12_findSoon_42 _ _ _ _ _ _ ⟨fun _ => hQ M r' hf (fun p hp => ?_), fun z => absurd (by rw [k1.1]; exact Int32.le_refl _) z⟩
      rw [hSM p hp]
      congr 1
      by_cases q : p < s.np
      · exact hset p (cb_all hcnt p q)
      · by_cases e : p = a
        · rw [e]; exact hSa
        · have := hDhi p e (by omega)
          have := hb p
          omega
    | succ g ih =>
      intro i dn S M r' hg hf hSM hdn hcnt hb hSa hset hrel
      obtain ⟨k1, k2⟩ := keep M hf
      refine v_X12_findSoon_42 _ _ _ _ _ _ ⟨fun z => absurd ((n_le k1.1 rfl (by omega) (by omega)).mp z) (by omega), fun _ => ?_⟩
      -- the soonest that is not done
      have relax : ∀ p, p < s.np → dn.testBit p = false → S p = D p → rt_AW G (d + 133) kX12_findSoon Q 141 [some (.ref 108), none, none, some (.int (nI mg)), some (.int (nI (dn ||| 2 ^ p))), some (.int (nI i)), some (.int (nI p)), some (.int 0), none] [] M L r' := by
        intro p hp hun hSp
        refine rt_loop (P := fun w => ∀ (S' : Nat → Nat) M r', Mq M I → SM S' M → (∀ q, D q ≤ S' q ∧ S' q ≤ S q) → (∀ v, v < 2 * s.nr → v / 2 < w → nfr m v = p → S' (ntt m v) ≤ nar s m mg v (D p)) → rt_AW G (d + 133) kX12_findSoon Q 141 [some (.ref 108), none, none, some (.int (nI mg)), some (.int (nI (dn ||| 2 ^ p))), some (.int (nI i)), some (.int (nI p)), some (.int (nI w)), none] [] M L r') s.nr ?_ ?_ S M r' hf hSM (fun q => ⟨(hb q).1, Nat.le_refl _⟩) (fun v hv h => by omega)
        · intro S' M r' hf hSM' hb' hv'
          obtain ⟨k1, k2⟩ := keep M hf
          refine v_X12_findSoon_141 _ _ _ _ _ _ _ _ ⟨fun _ => ?_, fun z => absurd (by rw [k1.2.1]; exact Int32.le_refl _) z⟩
          rw [nI_1]
          have hS'p : S' p = D p := by have := hb' p; omega
          refine ih (i + 1) (dn ||| 2 ^ p) S' M r' (by omega) hf hSM' (or_lt hdn (by omega)) ?_ (fun q => ⟨(hb' q).1, Nat.le_trans (hb' q).2 (hb q).2⟩) (by have := hb' a; omega) (fun q hq => ?_) (fun v hv hq => ?_)
          · have hlt : ∀ n, cb (fun q => (dn ||| 2 ^ p).testBit q) n = cb (fun q => dn.testBit q) n + if p < n then 1 else 0 := by
              intro n
              induction n with
              | zero => rfl
              | succ n ihn =>
                rw [cb_s, cb_s, ihn, tb_set]
                by_cases e : n = p
                · subst e
                  rw [hun]
                  simp
                · rw [show decide (n = p) = false by simpa using e, Bool.or_false]
                  by_cases e2 : dn.testBit n = true
                  · rw [if_pos e2, if_pos e2]
                    split <;> split <;> omega
                  · rw [if_neg e2, if_neg e2]
                    split <;> split <;> omega
            rw [hlt, hcnt, if_pos hp]
          · rw [tb_set, Bool.or_eq_true, decide_eq_true_eq] at hq
            rcases hq with hq | hq
            · have := hset q hq
              have := hb' q
              omega
            · rw [hq]; exact hS'p
          · rw [tb_set, Bool.or_eq_true, decide_eq_true_eq] at hq
            by_cases e : nfr m v = p
            · rw [e]
              exact hv' v hv (by omega) e
            · rcases hq with hq | hq
              · exact Nat.le_trans (hb' _).2 (hrel v hv hq)
              · exact absurd hq e
        · intro w hw ih2 S' M r' hf hSM' hb' hv'
          obtain ⟨k1, k2⟩ := keep M hf
          refine v_X12_findSoon_141 _ _ _ _ _ _ _ _ ⟨fun z => absurd ((n_le k1.2.1 rfl (by omega) (by omega)).mp z) (by omega), fun _ => wX12_beyond k2 hk rfl hw ?_⟩
          rw [nI_1]
          rcases way_of hk hm hw (show p < 8 by omega) with ⟨e1, e2⟩ | ⟨v, v1, v2, v3, v4, v5⟩
          · rw [e1]
            refine ⟨fun _ => ih2 S' M r' hf hSM' hb' (fun u hu hw2 hp2 => ?_), fun y => absurd rfl y⟩
            by_cases e : u / 2 = w
            · exact absurd hp2 (e2 u e)
            · exact hv' u hu (by omega) hp2
          · rw [v4]
            have hq := (net_pl hk hm v1).2
            refine ⟨fun y => absurd y (n_ne1 (by omega)), fun _ => ⟨vp_nI rfl (by omega) (by omega), vp_nI rfl (by omega) (by omega), ?_⟩⟩
            have hS'p : S' p = D p := by have := hb' p; omega
            rw [cl (n := p) rfl (by omega), cl (n := ntt m v) rfl (by omega), hSM' p (by omega), hSM' _ (show ntt m v < 8 by omega), hS'p]
            refine wX12_soonestBy k1 hk k2 hm hmg v1 (by rw [v2]) (by rw [v3]) rfl rfl (by have := hD.2.1 p; omega) (fun M2 r2 hT => ⟨vp_nI rfl (by omega) (by omega), ?_⟩)
            have hnl : nar s m mg v (D p) ≤ FR := by rcases (nar_ok s m mg v v1).2 (D p) with z | z <;> omega
            have hSl : S' (ntt m v) ≤ FR := Nat.le_trans (hb' _).2 (hb _).2
            rw [min_nI (by omega) (by omega)]
            refine ih2 (updN S' (ntt m v) (min (S' (ntt m v)) (nar s m mg v (D p)))) _ r2 (((hT.w k1).trans hf).u) ?_ (fun q => ?_) (fun u hu hw2 hp2 => ?_)
            · refine SM.u (fun q hq => ?_)
              rw [hT.1 125 (by decide)]
              exact hSM' q hq
            · unfold updN
              split
              · rename_i e
                rw [e]
                have h3 := hD.2.2.1 v v1 (opn0 _)
                rw [v3] at h3
                have := hb' (ntt m v)
                omega
              · exact hb' q
            · unfold updN
              by_cases e : u / 2 = w
              · have := v5 u e hp2
                subst this
                rw [if_pos rfl]
                exact Nat.min_le_right _ _
              · have := hv' u hu (by omega) hp2
                split
                · rename_i e2
                  rw [← e2]
                  exact Nat.le_trans (Nat.min_le_left _ _) this
                · exact this
      refine rt_loop (P := fun o => ∀ x6, (x6 = -1 ∧ ∀ q, q < o → dn.testBit q = false → ¬ S q < FR) ∨ (∃ p, p < o ∧ x6 = nI p ∧ dn.testBit p = false ∧ S p < FR ∧ ∀ q, q < o → dn.testBit q = false → S q < FR → S p ≤ S q) → rt_AW G (d + 133) kX12_findSoon Q 57 [some (.ref 108), none, none, some (.int (nI mg)), some (.int (nI dn)), some (.int (nI i)), some (.int x6), some (.int (nI o)), none] [] M L r') s.np ?_ ?_ (-1) (Or.inl ⟨rfl, fun q hq => by omega⟩)
      · intro x6 hx
        refine v_X12_findSoon_57 _ _ _ _ _ _ _ _ ⟨fun _ => ⟨fun z => ?_, fun z => ?_⟩, fun z => absurd (by rw [k1.1]; exact Int32.le_refl _) z⟩
        · rcases hx with ⟨e, -⟩ | ⟨p, hp, rfl, hun, hlt, hmin⟩
          · exact absurd e z
          · rw [or_nI (by omega)]
            refine relax p hp hun ?_
            by_cases e : S p = D p
            · exact e
            · obtain ⟨y, y1, y2, y3, y4⟩ := hwait S dn hb hSa hrel (D p) p (Nat.le_refl _) (by have := hb p; omega)
              have := hmin y y1 y2 (by have := hb p; omega)
              have := hb p
              omega
        · refine hQ M r' hf (fun p hp => ?_)
          rw [hSM p hp]
          congr 1
          rcases hx with ⟨-, hno⟩ | ⟨p, hp, rfl, -⟩
          · by_cases e : D p < S p
            · obtain ⟨y, y1, y2, y3, y4⟩ := hwait S dn hb hSa hrel (D p) p (Nat.le_refl _) e
              exact absurd (show S y < FR by have := hb p; omega) (hno y y1 y2)
            · have := hb p
              omega
          · exact absurd z (n_ne1 (by omega))
      · intro o ho ih2 x6 hx
        refine v_X12_findSoon_57 _ _ _ _ _ _ _ _ ⟨fun z => absurd ((n_le k1.1 rfl (by omega) (by omega)).mp z) (by omega), fun _ => ?_⟩
        simp only [nI_1]
        have hext : ∀ x6, ((x6 = -1 ∧ ∀ q, q < o → dn.testBit q = false → ¬ S q < FR) ∨ (∃ p, p < o ∧ x6 = nI p ∧ dn.testBit p = false ∧ S p < FR ∧ ∀ q, q < o → dn.testBit q = false → S q < FR → S p ≤ S q)) → (dn.testBit o = true ∨ ¬ S o < FR) → ((x6 = -1 ∧ ∀ q, q < o + 1 → dn.testBit q = false → ¬ S q < FR) ∨ (∃ p, p < o + 1 ∧ x6 = nI p ∧ dn.testBit p = false ∧ S p < FR ∧ ∀ q, q < o + 1 → dn.testBit q = false → S q < FR → S p ≤ S q)) := by
          intro x6 hx ho2
          have hskip : ∀ q, q < o + 1 → dn.testBit q = false → S q < FR → q < o := fun q hq h1 h2 => by
            by_cases e : q = o
            · subst e
              rcases ho2 with h | h
              · rw [h] at h1; cases h1
              · exact absurd h2 h
            · omega
          rcases hx with ⟨e, hno⟩ | ⟨p, hp, e, hun, hlt, hmin⟩
          · exact Or.inl ⟨e, fun q hq h1 h2 => hno q (hskip q hq h1 h2) h1 h2⟩
          · exact Or.inr ⟨p, by omega, e, hun, hlt, fun q hq h1 h2 => hmin q (hskip q hq h1 h2) h1 h2⟩
        refine sX12_has rfl hdn rfl (by omega) (fun z => ⟨fun _ => ih2 x6 (hext x6 hx (Or.inl z)), fun y => absurd y (by decide)⟩) (fun z => ⟨fun y => absurd rfl y, fun _ => ⟨vp_nI rfl (by omega) (by omega), ?_⟩⟩)
        rw [cl (n := o) rfl (by omega), hSM o (by omega)]
        have hSo := (hb o).2
        refine ⟨fun z2 => ih2 x6 (hext x6 hx (Or.inr ?_)), fun z2 => ⟨fun z3 => ih2 (nI o) (Or.inr ⟨o, by omega, rfl, z, ?_, fun q hq h1 h2 => ?_⟩), fun z3 => ?_⟩⟩
        · have := (n_le (a := FR) (b := S o) rfl rfl (by omega) (by omega)).mp z2
          omega
        · have := mt (n_le (a := FR) (b := S o) rfl rfl (by omega) (by omega)).mpr z2
          omega
        · rcases hx with ⟨-, hno⟩ | ⟨p, hp, e, -⟩
          · by_cases e : q = o
            · rw [e]; exact Nat.le_refl _
            · exact absurd h2 (hno q (by omega) h1)
          · rw [z3] at e
            exact absurd e.symm (n_ne1 (by omega))
        · have hSoF : S o < FR := by
            have := mt (n_le (a := FR) (b := S o) rfl rfl (by omega) (by omega)).mpr z2
            omega
          rcases hx with ⟨e, -⟩ | ⟨p, hp, rfl, hun, hlt, hmin⟩
          · exact absurd e z3
          · have hSp := (hb p).2
            refine ⟨vp_nI rfl (by omega) (by omega), vp_nI rfl (by omega) (by omega), ?_⟩
            rw [cl (n := p) rfl (by omega), hSM p (by omega)]
            refine ⟨fun z4 => ih2 (nI p) (Or.inr ⟨p, by omega, rfl, hun, hlt, fun q hq h1 h2 => ?_⟩), fun z4 => ih2 (nI o) (Or.inr ⟨o, by omega, rfl, z, hSoF, fun q hq h1 h2 => ?_⟩)⟩
            · have := (nI_leI (by omega) (by omega)).mp z4
              by_cases e : q = o
              · rw [e]; exact this
              · exact hmin q (by omega) h1 h2
            · have := mt (nI_leI (a := S p) (b := S o) (by omega) (by omega)).mpr z4
              by_cases e : q = o
              · rw [e]; exact Nat.le_refl _
              · have := hmin q (by omega) h1 h2
                omega
  refine v_X12_findSoon _ _ _ _ _ _ ?_
  refine rt_loop (P := fun p => ∀ M, Mq M I → (∀ q, q < p → M 125 q = nI (updN (fun _ => FR) a t q)) → rt_AW G (d + 133) kX12_findSoon Q 6 [some (.ref 108), some (.int (nI a)), some (.int (nI t)), some (.int (nI mg)), some (.int 0), some (.int (nI p)), none, none, none] [] M L r) 8 ?_ ?_ I (Mq.refl _) (fun q hq => by omega)
  · intro M hf h
    refine v_X12_findSoon_6 _ _ _ _ _ _ _ _ ⟨fun _ => ?_, fun z => absurd (by decide) z⟩
    refine outer s.np 0 0 (updN (fun _ => FR) a t) M r (by omega) hf h (by omega) ?_ (fun p => ?_) ?_ (fun p hp => by simp at hp) (fun v hv hp => by simp at hp)
    · have : ∀ n, cb (fun p => (0 : Nat).testBit p) n = 0 := by
        intro n
        induction n with
        | zero => rfl
        | succ n ihn => rw [cb_s, if_neg (by simp), ihn]
      exact this _
    · unfold updN
      split
      · rename_i e
        rw [e, hD.1]
        exact ⟨Nat.le_refl _, ht⟩
      · exact ⟨hD.2.1 p, Nat.le_refl _⟩
    · unfold updN
      rw [if_pos rfl, hD.1]
  · intro p hp ih M hf h
    have hst : ∀ x, x = updN (fun _ => FR) a t p → rt_AW G (d + 133) kX12_findSoon Q 6 [some (.ref 108), some (.int (nI a)), some (.int (nI t)), some (.int (nI mg)), some (.int 0), some (.int (nI (p + 1))), none, none, none] [] (rt_u M 125 p (nI x)) L r := fun x hx => ih _ hf.u (fun q hq => by
      by_cases e : q = p
      · subst e; rw [rt_u_at, hx]
      · rw [rt_u1 e]; exact h q (by omega))
    have hv : vp_in (nI p) 8 := vp_nI rfl hp (by omega)
    refine v_X12_findSoon_6 _ _ _ _ _ _ _ _ ⟨fun z => absurd ((n_le (a := 8) (b := p) rfl rfl (by omega) (by omega)).mp z) (by omega), fun _ => ⟨fun z => ⟨hv, ?_⟩, fun z => ⟨hv, ?_⟩⟩⟩
    · rw [cl (n := p) rfl (by omega), nI_1]
      refine hst FR ?_
      unfold updN
      rw [if_neg (fun e => z (by rw [e]))]
    · rw [cl (n := p) rfl (by omega), nI_1]
      refine hst t ?_
      unfold updN
      rw [if_pos ((nI_eq (by omega) (by omega)).mp z)]
end
