/-! WAYS: the net of a state; the class looks on, spreads -/
def ea (m : MO) (w : Nat) : Nat := cc (m (40 + 2 * w))
def eb (m : MO) (w : Nat) : Nat := cc (m (41 + 2 * w))
def nfr (m : MO) (v : Nat) : Nat := if v % 2 = 0 then ea m (v / 2) else eb m (v / 2)
def ntt (m : MO) (v : Nat) : Nat := if v % 2 = 0 then eb m (v / 2) else ea m (v / 2)
def ntl (s : SV) (m : MO) (v : Nat) : Nat := cc (s.tkn (v / 2) (nfr m v) (ntt m v) 0)
def allb (b : Nat → Bool) : Nat → Bool
  | 0 => true
  | k + 1 => allb b k && b k
theorem allb_iff {b : Nat → Bool} : ∀ {n}, allb b n = true ↔ ∀ j, j < n → b j = true
  | 0 => ⟨fun _ j hj => by omega, fun _ => rfl⟩
  | n + 1 => by
    unfold allb
    rw [Bool.and_eq_true, allb_iff (n := n)]
    constructor
    · rintro ⟨h1, h2⟩ j hj
      by_cases e : j = n
      · rw [e]; exact h2
      · exact h1 j (by omega)
    · intro h
      exact ⟨fun j hj => h j (by omega), h n (by omega)⟩
def nok (s : SV) (m : MO) (mg v t : Nat) : Bool := decide (t + ntl s m v ≤ 120) && allb (fun j => tht s m (v / 2) (t + j)) (ntl s m v + mg)
def nar (s : SV) (m : MO) (mg v t : Nat) : Nat := arr (ntl s m v) (nok s m mg v) t
theorem ntl_ex (s : SV) (m : MO) (v : Nat) : 1 ≤ ntl s m v ∧ ntl s m v ≤ 20 ∧ s.tkn (v / 2) (nfr m v) (ntt m v) 0 = nI (ntl s m v) := by
  obtain ⟨k, h1, h2, e⟩ := tkn_ex s (v / 2) (nfr m v) (ntt m v) 0
  have : ntl s m v = k := by unfold ntl; rw [e]; exact cc_nI (by omega)
  rw [this]
  exact ⟨h1, h2, e⟩
theorem nok_le {s : SV} {m : MO} {mg v k : Nat} (h : nok s m mg v k = true) : k + ntl s m v ≤ 120 := by
  unfold nok at h
  rw [Bool.and_eq_true, decide_eq_true_eq] at h
  exact h.1
theorem nar_ok (s : SV) (m : MO) (mg : Nat) : okN (2 * s.nr) (nar s m mg) := fun v _ => ⟨fun t t' h => arr_mono (fun k => nok_le) h, fun t => by
  have := (ntl_ex s m v).1
  exact (arr_rng (ok := nok s m mg v) (fun k => nok_le) this t).imp id (fun z => by unfold nar; omega)⟩
theorem ends_ok {s : SV} {m : MO} {B w : Nat} (hk : sok s) (hm : mok s B m) (hw : w < s.nr) : ea m w < s.np ∧ eb m w < s.np ∧ ea m w ≠ eb m w ∧ m (40 + 2 * w) = nI (ea m w) ∧ m (41 + 2 * w) = nI (eb m w) := by
  obtain ⟨a, b, ha, hb, hab, e1, e2⟩ := hm.2 w hw
  have h8 := hk.1
  have f1 : ea m w = a := by unfold ea; rw [e1]; exact cc_nI (by omega)
  have f2 : eb m w = b := by unfold eb; rw [e2]; exact cc_nI (by omega)
  rw [f1, f2]
  exact ⟨ha, hb, hab, e1, e2⟩
theorem net_pl {s : SV} {m : MO} {B v : Nat} (hk : sok s) (hm : mok s B m) (hv : v < 2 * s.nr) : nfr m v < s.np ∧ ntt m v < s.np := by
  obtain ⟨h1, h2, -⟩ := ends_ok hk hm (w := v / 2) (by omega)
  unfold nfr ntt
  split
  · exact ⟨h1, h2⟩
  · exact ⟨h2, h1⟩
theorem net_e (m : MO) (w : Nat) : nfr m (2 * w) = ea m w ∧ ntt m (2 * w) = eb m w ∧ nfr m (2 * w + 1) = eb m w ∧ ntt m (2 * w + 1) = ea m w := by
  unfold nfr ntt
  rw [if_pos (by omega), if_pos (by omega), if_neg (by omega), if_neg (by omega), show 2 * w / 2 = w by omega, show (2 * w + 1) / 2 = w by omega]
  exact ⟨rfl, rfl, rfl, rfl⟩
/-- how long a thing holds, looked at d behind the end -/
def runD (th : Nat → Bool) (e : Nat) : Nat → Nat
  | 0 => 0
  | d + 1 => if th (e - (d + 1)) = true then runD th e d + 1 else 0
theorem runD_iff {th : Nat → Bool} {e : Nat} : ∀ {d l : Nat}, d ≤ e → (l ≤ runD th e d ↔ l ≤ d ∧ ∀ j, j < l → th (e - d + j) = true)
  | 0, l, h => by
    show l ≤ 0 ↔ _
    constructor
    · intro h; exact ⟨h, fun j hj => by omega⟩
    · rintro ⟨h, -⟩; exact h
  | d + 1, l, h => by
    unfold runD
    split
    · rename_i z
      cases l with
      | zero => exact ⟨fun _ => ⟨by omega, fun j hj => by omega⟩, fun _ => by omega⟩
      | succ l =>
        have ih := runD_iff (th := th) (e := e) (d := d) (l := l) (by omega)
        constructor
        · intro q
          obtain ⟨h1, h2⟩ := ih.mp (by omega)
          refine ⟨by omega, fun j hj => ?_⟩
          cases j with
          | zero => exact z
          | succ j =>
            have := h2 j (by omega)
            rw [show e - (d + 1) + (j + 1) = e - d + j by omega]
            exact this
        · rintro ⟨h1, h2⟩
          have := ih.mpr ⟨by omega, fun j hj => by
            have := h2 (j + 1) (by omega)
            rw [show e - (d + 1) + (j + 1) = e - d + j by omega] at this
            exact this⟩
          omega
    · rename_i z
      constructor
      · intro q
        obtain rfl : l = 0 := by omega
        exact ⟨by omega, fun j hj => by omega⟩
      · rintro ⟨h1, h2⟩
        cases l with
        | zero => omega
        | succ l => exact absurd (h2 0 (by omega)) z
theorem dep_s {ok : Nat → Bool} {t : Nat} (h : t ≤ 120) : dep ok t = if ok t = true then t else dep ok (t + 1) := by
  unfold dep
  rw [show 121 - t = (121 - (t + 1)) + 1 by omega]
  rfl
theorem dep_121 {ok : Nat → Bool} {t : Nat} (h : 120 < t) : dep ok t = FR := by
  unfold dep
  rw [show 121 - t = 0 by omega]
  rfl
theorem dep_le {ok : Nat → Bool} {t : Nat} : dep ok t ≤ FR := by
  have : FR = 1000000 := rfl
  rcases dep_spec ok t with ⟨a, b⟩ | ⟨a, b, c, e⟩ <;> omega
theorem n2w (w : Nat) : (2 : Int32) * nI w = nI (2 * w) := n_lm 2 w
theorem n122 (v : Nat) : nI v * (122 : Int32) = nI (v * 122) := n_ml v 122
theorem ndiv2 {v : Nat} (h : v < 2 ^ 31) : nI v / (2 : Int32) = nI (v / 2) := pk_div (d := 2) h (by omega) (by omega)
section
variable {G : rt_G} {d : Nat} {Q : rt_Q} {I : rt_I} {L : rt_L} {r B mg : Nat} {s : SV} {m : MO}
theorem fill_outs {x : Int32} (hQ : ∀ M, Fr M I [31] → (∀ j, j < 2928 → M 31 j = x) → Q 0 M L r) : rt_Call G d kJ7_fill_53178 [.ref 31, .int x] I L r Q := by
  refine v_J7_fill_53178_outs _ _ _ _ (rt_loop (P := fun k => ∀ M, Fr M I [31] → (∀ j, j < k → M 31 j = x) → rt_AW G d kJ7_fill_53178 Q 5 [some (.ref 31), some (.int x), some (.int (nI k)), some (.int 2928)] [] M L r) 2928 ?_ ?_ I (Fr.refl _ _) (fun j hj => absurd hj (Nat.not_lt_zero _)))
  · intro M hF h
    exact v_J7_fill_53178_outs_5 _ _ _ _ _ _ ⟨fun _ => hQ M hF h, fun z => absurd (by decide) z⟩
  · intro k hk ih M hF h
    refine v_J7_fill_53178_outs_5 _ _ _ _ _ _ ⟨fun z => absurd ((n_le (a := 2928) (b := k) rfl rfl (by omega) (by omega)).mp z) (by omega), fun _ => ⟨vp_nI rfl hk (by omega), ?_⟩⟩
    rw [cl (n := k) rfl (by omega), nI_1]
    refine ih _ (hF.u (by decide)) (fun j hj => ?_)
    by_cases e : j = k
    · subst e; exact rt_u_at
    · rw [rt_u1 e]; exact h j (by omega)
theorem fill_soon {x : Int32} (hQ : ∀ M, Fr M I [33] → (∀ j, j < 8 → M 33 j = x) → Q 0 M L r) : rt_Call G d kJ7_fill_53178 [.ref 33, .int x] I L r Q := by
  refine v_J7_fill_53178_soon _ _ _ _ (rt_loop (P := fun k => ∀ M, Fr M I [33] → (∀ j, j < k → M 33 j = x) → rt_AW G d kJ7_fill_53178 Q 5 [some (.ref 33), some (.int x), some (.int (nI k)), some (.int 8)] [] M L r) 8 ?_ ?_ I (Fr.refl _ _) (fun j hj => absurd hj (Nat.not_lt_zero _)))
  · intro M hF h
    exact v_J7_fill_53178_soon_5 _ _ _ _ _ _ ⟨fun _ => hQ M hF h, fun z => absurd (by decide) z⟩
  · intro k hk ih M hF h
    refine v_J7_fill_53178_soon_5 _ _ _ _ _ _ ⟨fun z => absurd ((n_le (a := 8) (b := k) rfl rfl (by omega) (by omega)).mp z) (by omega), fun _ => ⟨vp_nI rfl hk (by omega), ?_⟩⟩
    rw [cl (n := k) rfl (by omega), nI_1]
    refine ih _ (hF.u (by decide)) (fun j hj => ?_)
    by_cases e : j = k
    · subst e; exact rt_u_at
    · rw [rt_u1 e]; exact h j (by omega)
def WT (s : SV) (m : MO) (I : rt_I) : Prop := ∀ v, v < 2 * s.nr → I 30 v = nI (ntl s m v)
def WO (s : SV) (m : MO) (mg : Nat) (I : rt_I) : Prop := ∀ v, v < 2 * s.nr → ∀ t, t ≤ 120 → I 31 (v * 122 + t) = nI (dep (nok s m mg v) t)
/-- one way looked at, one time: what is behind is known -/
theorem sX10_noteOut {v t : Nat} {x1 x2 : Int32} (hk : sok s) (hmg : mg ≤ 20) (hv : v < 2 * s.nr) (hT : WT s m I) (hr : t ≤ 120 → I 32 (v / 2) = nI (runD (tht s m (v / 2)) 141 (141 - t))) (ht : t ≤ 140) (h1 : x1 = nI v) (h2 : x2 = nI t)
    (hb : t ≤ 120 → I 31 (v * 122 + (t + 1)) = nI (dep (nok s m mg v) (t + 1))) (hQ : ∀ M, Fr M I [31] → (t ≤ 120 → M 31 (v * 122 + t) = nI (dep (nok s m mg v) t)) → (∀ j, (j ≠ v * 122 + t ∨ 120 < t) → M 31 j = I 31 j) → Q 0 M L r) : rt_Call G d kX10_noteOut [.ref 29, .int x1, .int x2, .int (nI mg)] I L r Q := by
  have h12 := hk.2.1
  subst h1 h2
  obtain ⟨l1, l20, el⟩ := ntl_ex s m v
  refine v_X10_noteOut _ _ _ _ _ _ ⟨fun z => ?_, fun z => hQ I (Fr.refl _ _) (fun q => absurd ((n_le (a := t) (b := 120) rfl rfl (by omega) (by omega)).mpr q) z) (fun _ _ => rfl)⟩
  have ht2 : t ≤ 120 := (n_le (a := t) (b := 120) rfl rfl (by omega) (by omega)).mp z
  have hfin : ∀ x, x = nI (dep (nok s m mg v) t) → Q 0 (rt_u I 31 (v * 122 + t) x) L r := fun x e => hQ _ ((Fr.refl _ _).u (by decide)) (fun _ => by rw [rt_u_at, e]) (fun j hj => rt_u1 (by omega))
  rw [ndiv2 (by omega)]
  refine ⟨by decide, vp_nI rfl (by omega) (by omega), vp_nI rfl (by omega) (by omega), ?_⟩
  rw [cl (n := v / 2) rfl (by omega), cl (n := v) rfl (by omega), hr ht2, hT v hv, nI_add, nI_add, n122, nI_add, na1]
  have hrun := runD_iff (th := tht s m (v / 2)) (e := 141) (d := 141 - t) (l := ntl s m v + mg) (by omega)
  have hle : runD (tht s m (v / 2)) 141 (141 - t) ≤ 141 - t := (runD_iff (th := tht s m (v / 2)) (e := 141) (d := 141 - t) (by omega)).mp (Nat.le_refl _) |>.1
  have hnok : nok s m mg v t = true ↔ t + ntl s m v ≤ 120 ∧ ntl s m v + mg ≤ runD (tht s m (v / 2)) 141 (141 - t) := by
    unfold nok
    rw [Bool.and_eq_true, decide_eq_true_eq, allb_iff, hrun, show 141 - (141 - t) = t by omega]
    constructor
    · rintro ⟨a, b⟩; exact ⟨a, by omega, b⟩
    · rintro ⟨a, -, b⟩; exact ⟨a, b⟩
  have hno : ¬ nok s m mg v t = true → vp_in (nI (v * 122 + t + 1)) 2928 ∧ vp_in (nI (v * 122 + t)) 2928 ∧ Q 0 (rt_u I 31 (nI (v * 122 + t)).toNatClampNeg (I 31 (nI (v * 122 + t + 1)).toNatClampNeg)) L r := by
    intro q
    refine ⟨vp_nI rfl (by omega) (by omega), vp_nI rfl (by omega) (by omega), ?_⟩
    rw [cl (n := v * 122 + t) rfl (by omega), cl (n := v * 122 + t + 1) rfl (by omega)]
    refine hfin _ ?_
    rw [dep_s ht2, if_neg q]
    exact hb ht2
  refine ⟨fun y => hno (fun q => ?_), fun y => ⟨vp_nI rfl (by omega) (by omega), fun y2 => hno (fun q => ?_), fun y2 => ⟨vp_nI rfl (by omega) (by omega), ?_⟩⟩⟩
  · have := (nI_ltI (by omega) (by omega)).mp y
    have := (hnok.mp q).2
    omega
  · have := (n_lt (a := 120) rfl rfl (by omega) (by omega)).mp y2
    have := (hnok.mp q).1
    omega
  · have q1 := mt (nI_ltI (by omega) (by omega)).mpr y
    have q2 := mt (n_lt (a := 120) (b := t + ntl s m v) rfl rfl (by omega) (by omega)).mpr y2
    rw [cl (n := v * 122 + t) rfl (by omega)]
    refine hfin _ ?_
    rw [dep_s ht2, if_pos (hnok.mpr ⟨by omega, by omega⟩)]
theorem sX10_outFrom {v t : Nat} {x1 x2 : Int32} (hk : sok s) (hv : v < 2 * s.nr) (hO : WO s m mg I) (h1 : x1 = nI v) (h2 : x2 = nI t) (ht : t ≤ FR) (hQ : Q (nI (dep (nok s m mg v) t)) I L r) : rt_Call G d kX10_outFrom [.ref 29, .int x1, .int x2] I L r Q := by
  have h12 := hk.2.1
  have hF : FR = 1000000 := rfl
  subst h1 h2
  refine v_X10_outFrom _ _ _ _ _ ⟨fun z => absurd z (n_neg (by omega)), fun _ => ⟨fun z => ?_, fun z => ?_⟩⟩
  · have := (n_lt (a := 120) rfl rfl (by omega) (by omega)).mp z
    rw [dep_121 this] at hQ
    exact hQ
  · have ht2 := mt (n_lt (a := 120) (b := t) rfl rfl (by omega) (by omega)).mpr z
    rw [n122, nI_add]
    refine ⟨vp_nI rfl (by omega) (by omega), ?_⟩
    rw [cl (n := v * 122 + t) rfl (by omega), hO v hv t (by omega)]
    exact hQ
/-! the class looks on -/
theorem wX10_lookOn (hS : XZ s I) (hk : sok s) (hM : XMo s m I 16) (hm : mok s B m) (hmg : mg ≤ 20)
    (hQ : ∀ M, Fr M I [10, 11, 30, 31, 32] → WT s m M → WO s m mg M → Q 0 M L r) : rt_Call G (d + 4) kX10_lookOn [.ref 29, .int (nI mg)] I L r Q := by
  have h12 := hk.2.1
  have h8 := hk.1
  have hF : FR = 1000000 := rfl
  have keep : ∀ M, Fr M I [10, 11, 30, 31, 32] → XZ s M ∧ XMo s m M 16 := fun M hf => ⟨hS.frq hf (by decide), hM.fr (by rw [hf 16 (by decide)]) (hf 17 (by decide)) (hf 18 (by decide)) (hf 19 (by decide))⟩
  refine v_X10_lookOn _ _ _ _ ?_
  refine rt_loop (P := fun k => ∀ M, Fr M I [10, 11, 30, 31, 32] → (∀ v, v < 2 * k → M 30 v = nI (ntl s m v)) → (∀ w, w < k → M 32 w = 0) → rt_AW G (d + 4) kX10_lookOn Q 10 [some (.ref 29), some (.int (nI mg)), some (.ref 16), some (.int (nI k)), none, none] [] M L r) s.nr ?_ ?_ I (Fr.refl _ _) (fun v hv => absurd hv (by omega)) (fun v hv => absurd hv (by omega))
  · intro M hf hT h32
    obtain ⟨hS', hM'⟩ := keep M hf
    refine v_X10_lookOn_10 _ _ _ _ _ ⟨fun _ => fill_outs (fun M2 hf2 h31 => ?_), fun z => absurd (by rw [hS'.2.1]; exact Int32.le_refl _) z⟩
    have hfM2 : Fr M2 I [10, 11, 30, 31, 32] := (hf2.mono (by decide)).trans hf
    have hT2 : WT s m M2 := fun v hv => by rw [hf2 30 (by decide)]; exact hT v hv
    have key : ∀ T M, T ≤ 141 → Fr M I [10, 11, 30, 31, 32] → WT s m M → (∀ w, w < s.nr → M 32 w = nI (runD (tht s m w) 141 (141 - T))) → (∀ v, v < 2 * s.nr → M 31 (v * 122 + 121) = nI FR) → (∀ v, v < 2 * s.nr → ∀ t, T ≤ t → t ≤ 120 → M 31 (v * 122 + t) = nI (dep (nok s m mg v) t)) → rt_AW G (d + 4) kX10_lookOn Q 107 [some (.ref 29), some (.int (nI mg)), some (.ref 16), some (.int (nI T - 1)), none, none] [] M L r := by
      intro T
      induction T with
      | zero =>
        intro M _ hf hT _ _ hO
        refine v_X10_lookOn_107 _ _ _ _ _ ⟨fun _ => hQ M hf hT (fun v hv t ht => hO v hv t (Nat.zero_le _) ht), fun z => absurd (by decide) z⟩
      | succ T ih =>
        intro M hT141 hf hT hR h121 hO
        obtain ⟨hS', hM'⟩ := keep M hf
        rw [nI_pred]
        refine v_X10_lookOn_107 _ _ _ _ _ ⟨fun z => absurd z (n_neg (by omega)), fun _ => wX8_heightAt hS' hk ?_⟩
        rw [hM'.1]
        refine rt_loop (P := fun w => ∀ M, Fr M I [10, 11, 30, 31, 32] → WT s m M → (∀ u, u < s.nr → M 32 u = nI (runD (tht s m u) 141 (141 - (if u < w then T else T + 1)))) → (∀ v, v < 2 * s.nr → M 31 (v * 122 + 121) = nI FR) → (∀ v, v < 2 * s.nr → ∀ t, (if v < 2 * w then T else T + 1) ≤ t → t ≤ 120 → M 31 (v * 122 + t) = nI (dep (nok s m mg v) t)) → rt_AW G (d + 4) kX10_lookOn Q 132 [some (.ref 29), some (.int (nI mg)), some (.ref 16), some (.int (nI T)), some (.int (s.lv (m 64 + nI T))), some (.int (nI w))] [] M L r) s.nr ?_ ?_ M hf hT (fun u hu => by rw [if_neg (by omega)]; exact hR u hu) h121 (fun v hv t h1 h2 => hO v hv t (by rw [if_neg (by omega)] at h1; exact h1) h2)
        · intro M hf hT hR h121 hO
          obtain ⟨hS', hM'⟩ := keep M hf
          refine v_X10_lookOn_132 _ _ _ _ _ _ _ ⟨fun _ => ?_, fun z => absurd (by rw [hS'.2.1]; exact Int32.le_refl _) z⟩
          rw [show nI T + (-1) = nI T - 1 from (Int32.sub_eq_add_neg (nI T) 1).symm]
          refine ih M (by omega) hf hT (fun w hw => ?_) h121 (fun v hv t h1 h2 => hO v hv t (by rw [if_pos (by omega)]; exact h1) h2)
          have := hR w hw
          rw [if_pos hw] at this
          exact this
        · intro w hw ih2 M hf hT hR h121 hO
          obtain ⟨hS', hM'⟩ := keep M hf
          have e15 : M 15 w = s.rh w := hS'.2.2.2.2.2.2.2.1 w hw
          have hrd : runD (tht s m w) 141 (141 - T) = if tht s m w T = true then runD (tht s m w) 141 (141 - (T + 1)) + 1 else 0 := by
            rw [show 141 - T = (141 - (T + 1)) + 1 by omega]
            show (if tht s m w (141 - (141 - (T + 1) + 1)) = true then _ else _) = _
            rw [show 141 - (141 - (T + 1) + 1) = T by omega]
          have hgo : ∀ x, x = nI (runD (tht s m w) 141 (141 - T)) → rt_Call G (d + 3) kX10_noteOut [.ref 29, .int (2 * nI w), .int (nI T), .int (nI mg)] (rt_u M 32 w x) L r (fun v1 I1 L1 r1 => rt_Call G (d + 3) kX10_noteOut [.ref 29, .int (2 * nI w + 1), .int (nI T), .int (nI mg)] I1 L1 r1 (fun v2 I2 L2 r2 => rt_AW G (d + 4) kX10_lookOn Q 132 [some (.ref 29), some (.int (nI mg)), some (.ref 16), some (.int (nI T)), some (.int (s.lv (m 64 + nI T))), some (.int (nI w + 1))] [] I2 L2 r2)) := by
            intro x hx
            rw [n2w, nI_1, nI_1]
            refine sX10_noteOut hk hmg (v := 2 * w) (t := T) (by omega) (fun v hv => by rw [rt_u_ne (by decide)]; exact hT v hv) (fun _ => ?_) (by omega) rfl rfl (fun h => ?_) (fun M1 f1 g1 k1 => ?_)
            · rw [show 2 * w / 2 = w by omega, rt_u_at, hx]
            · rw [rt_u_ne (by decide)]
              by_cases e : T = 120
              · subst e
                rw [h121 _ (by omega), dep_121 (by omega)]
              · exact hO (2 * w) (by omega) (T + 1) (by split <;> omega) (by omega)
            · have e32 : M1 32 w = nI (runD (tht s m w) 141 (141 - T)) := by rw [f1 32 (by decide), rt_u_at, hx]
              refine sX10_noteOut hk hmg (v := 2 * w + 1) (t := T) (by omega) (fun v hv => by rw [f1 30 (by decide), rt_u_ne (by decide)]; exact hT v hv) (fun _ => ?_) (by omega) rfl rfl (fun h => ?_) (fun M2 f2 g2 k2 => ?_)
              · rw [show (2 * w + 1) / 2 = w by omega]; exact e32
              · rw [k1 _ (Or.inl (by omega)), rt_u_ne (by decide)]
                by_cases e : T = 120
                · subst e
                  rw [h121 _ (by omega), dep_121 (by omega)]
                · exact hO (2 * w + 1) (by omega) (T + 1) (by split <;> omega) (by omega)
              · refine ih2 M2 (((f2.mono (by decide)).trans (f1.mono (by decide))).trans (hf.u (by decide))) (fun v hv => by rw [f2 30 (by decide), f1 30 (by decide), rt_u_ne (by decide)]; exact hT v hv) (fun u hu => ?_) (fun v hv => ?_) (fun v hv t h1 h2 => ?_)
                · rw [f2 32 (by decide), f1 32 (by decide)]
                  by_cases e : u = w
                  · subst e
                    rw [rt_u_at, if_pos (by omega)]
                    exact hx
                  · rw [rt_u1 e]
                    have := hR u hu
                    by_cases q : u < w
                    · rw [if_pos q] at this; rw [if_pos (by omega)]; exact this
                    · rw [if_neg q] at this; rw [if_neg (by omega)]; exact this
                · rw [k2 _ (by omega), k1 _ (by omega), rt_u_ne (by decide)]
                  exact h121 v hv
                · by_cases e : v = 2 * w + 1 ∧ t = T
                  · obtain ⟨rfl, rfl⟩ := e
                    exact g2 h2
                  · by_cases e2 : v = 2 * w ∧ t = T
                    · obtain ⟨rfl, rfl⟩ := e2
                      rw [k2 _ (Or.inl (by omega))]
                      exact g1 h2
                    · rw [k2 _ (by omega), k1 _ (by omega), rt_u_ne (by decide)]
                      refine hO v hv t ?_ h2
                      by_cases q : v < 2 * w
                      · rw [if_pos q]; rw [if_pos (by omega)] at h1; exact h1
                      · rw [if_neg q]
                        by_cases q2 : v < 2 * (w + 1)
                        · rw [if_pos q2] at h1
                          omega
                        · rw [if_neg q2] at h1; exact h1
          have hv : vp_in (nI w) 12 := vp_nI rfl (by omega) (by omega)
          have eR := hR w hw
          rw [if_neg (by omega)] at eR
          refine v_X10_lookOn_132 _ _ _ _ _ _ _ ⟨fun z => absurd ((n_le hS'.2.1 rfl (by omega) (by omega)).mp z) (by omega), fun _ => ⟨hv, ?_⟩⟩
          rw [cl (n := w) rfl (by omega), e15]
          refine ⟨fun z => ⟨hv, hgo 0 ?_⟩, fun z => ⟨hv, hv, hgo _ ?_⟩⟩
          · have hth : tht s m w T = false := by
              unfold tht SV.th thr
              have z' : lvl s.nd s.td (m 64 + nI T) < s.rh w := z
              simpa using z'
            rw [hrd, if_neg (by rw [hth]; decide)]
            rfl
          · have hth : tht s m w T = true := by
              unfold tht SV.th thr
              have z' : ¬ lvl s.nd s.td (m 64 + nI T) < s.rh w := z
              simpa using Int32.not_lt.mp z'
            rw [hrd, if_pos hth, eR, nI_1]
    refine key 141 M2 (Nat.le_refl _) hfM2 hT2 (fun w hw => by rw [hf2 32 (by decide)]; exact h32 w hw) (fun v hv => h31 _ (by omega)) (fun v hv t h1 h2 => by omega)
  · intro w hw ih M hf hT h32
    obtain ⟨hS', hM'⟩ := keep M hf
    obtain ⟨p1, p2, p3, p4, p5⟩ := ends_ok hk hm hw
    obtain ⟨n1, n2, n3, n4⟩ := net_e m w
    have hv : vp_in (nI w) 12 := vp_nI rfl (by omega) (by omega)
    have e18 : M 18 w = nI (ea m w) := (hM'.2.2.1 w hw).trans p4
    have e19 : M 19 w = nI (eb m w) := (hM'.2.2.2 w hw).trans p5
    have t1 := (ntl_ex s m (2 * w)).2.2
    have t2 := (ntl_ex s m (2 * w + 1)).2.2
    rw [n1, n2, show 2 * w / 2 = w by omega] at t1
    rw [n3, n4, show (2 * w + 1) / 2 = w by omega] at t2
    refine v_X10_lookOn_10 _ _ _ _ _ ⟨fun z => absurd ((n_le hS'.2.1 rfl (by omega) (by omega)).mp z) (by omega), fun _ => ⟨hv, hv, ?_⟩⟩
    rw [cl (n := w) rfl (by omega), e18, e19]
    refine wX9_turnsBy hS' hk rfl hw rfl p1 rfl p2 (fun M1 f1 => ?_)
    rw [n2w, t1]
    refine ⟨vp_nI rfl (by omega) (by omega), hv, hv, ?_⟩
    rw [f1 18 (by decide), f1 19 (by decide), e18, e19, cl (n := 2 * w) rfl (by omega)]
    have hf1 : Fr (rt_u M1 30 (2 * w) (nI (ntl s m (2 * w)))) I [10, 11, 30, 31, 32] := (((f1.mono (by decide)).trans hf).u (by decide))
    obtain ⟨hS1, hM1⟩ := keep _ hf1
    refine wX9_turnsBy hS1 hk rfl hw rfl p2 rfl p1 (fun M2 f2 => ?_)
    rw [t2, na1, nI_1]
    refine ⟨vp_nI rfl (by omega) (by omega), hv, ?_⟩
    rw [cl (n := 2 * w + 1) rfl (by omega)]
    refine ih _ ((((f2.mono (by decide)).trans hf1).u (by decide)).u (by decide)) (fun v hv2 => ?_) (fun u hu => ?_)
    · rw [rt_u_ne (by decide)]
      by_cases e : v = 2 * w + 1
      · subst e; exact rt_u_at
      · rw [rt_u1 e, f2 30 (by decide)]
        by_cases e2 : v = 2 * w
        · subst e2; exact rt_u_at
        · rw [rt_u1 e2, f1 30 (by decide)]; exact hT v (by omega)
    · by_cases e : u = w
      · subst e; exact rt_u_at
      · rw [rt_u1 e, rt_u_ne (by decide), f2 32 (by decide), rt_u_ne (by decide), f1 32 (by decide)]; exact h32 u (by omega)
end
