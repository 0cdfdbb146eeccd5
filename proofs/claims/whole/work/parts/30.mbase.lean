/-! THE MODEL: small methods, the reading of texts -/
section
variable {G : rt_G} {d : Nat} {Q : rt_Q} {I : rt_I} {L : rt_L} {r n : Nat}
theorem sX12_in {x a b : Int32} (h1 : ¬ x < a ∧ ¬ b < x → Q 1 I L r) (h0 : ¬ (¬ x < a ∧ ¬ b < x) → Q 0 I L r) : rt_Call G d kX12_in [.int x, .int a, .int b] I L r Q :=
  v_X12_in _ _ _ _ _ _ ⟨fun z => h0 (fun q => q.1 z), fun z => ⟨fun z2 => h0 (fun q => q.2 z2), fun z2 => h1 ⟨z, z2⟩⟩⟩
theorem n_m1 {n : Nat} (hn : n < 1000) (x : Int32) : (¬ x < 0 ∧ ¬ nI n - 1 < x) ↔ inr x n := by
  constructor
  · rintro ⟨h1, h2⟩
    obtain ⟨k, hk, rfl⟩ := nI_of h1
    refine ⟨h1, ?_⟩
    cases n with
    | zero =>
      exfalso
      apply h2
      rw [show nI 0 - 1 = -1 by decide]
      exact n_1lt hk
    | succ n =>
      rw [nI_pred] at h2
      have := mt (nI_ltI (by omega) hk).mpr h2
      exact nI_lt (by omega) (by omega)
  · rintro ⟨h1, h2⟩
    obtain ⟨k, hk, rfl⟩ := nI_of h1
    have h3 := (nI_ltI hk (by omega)).mp h2
    refine ⟨h1, ?_⟩
    cases n with
    | zero => omega
    | succ n =>
      rw [nI_pred]
      exact nI_nlt (by omega) (by omega)
theorem sX12_isPlace {x : Int32} (hn : I 108 1 = nI n) (h9 : n < 1000) (h1 : inr x n → Q 1 I L r) (h0 : ¬ inr x n → Q 0 I L r) : rt_Call G (d + 1) kX12_isPlace [.ref 108, .int x] I L r Q := by
  refine v_X12_isPlace _ _ _ _ ?_
  rw [hn]
  exact sX12_in (fun q => ⟨Or.inr rfl, h1 ((n_m1 h9 x).mp q)⟩) (fun q => ⟨Or.inl rfl, h0 (fun z => q ((n_m1 h9 x).mpr z))⟩)
theorem sX12_isRoad {x : Int32} (hn : I 108 3 = nI n) (h9 : n < 1000) (h1 : inr x n → Q 1 I L r) (h0 : ¬ inr x n → Q 0 I L r) : rt_Call G (d + 1) kX12_isRoad [.ref 108, .int x] I L r Q := by
  refine v_X12_isRoad _ _ _ _ ?_
  rw [hn]
  exact sX12_in (fun q => ⟨Or.inr rfl, h1 ((n_m1 h9 x).mp q)⟩) (fun q => ⟨Or.inl rfl, h0 (fun z => q ((n_m1 h9 x).mpr z))⟩)
theorem sX12_isCart {x : Int32} (hn : I 108 6 = nI n) (h9 : n < 1000) (h1 : inr x n → Q 1 I L r) (h0 : ¬ inr x n → Q 0 I L r) : rt_Call G (d + 1) kX12_isCart [.ref 108, .int x] I L r Q := by
  refine v_X12_isCart _ _ _ _ ?_
  rw [hn]
  exact sX12_in (fun q => ⟨Or.inr rfl, h1 ((n_m1 h9 x).mp q)⟩) (fun q => ⟨Or.inl rfl, h0 (fun z => q ((n_m1 h9 x).mpr z))⟩)
theorem sX12_lost (hQ : Q 0 (rt_u I 108 14 1) L r) : rt_Call G d kX12_lost [.ref 108] I L r Q := v_X12_lost _ _ _ hQ
theorem sX12_tell {v : Int32} (hn : I 108 13 = nI n) (h40 : n < 40) (hQ : Q 0 (rt_u (rt_u I 115 n v) 108 13 (nI (n + 1))) L r) : rt_Call G d kX12_tell [.ref 108, .int v] I L r Q := by
  refine v_X12_tell _ _ _ _ ⟨vp_nI hn h40 (by omega), ?_⟩
  rw [hn, nI_clamp (by omega), nI_1]
  exact hQ
theorem sX12_isLook {x : Int32} (h1 : ¬ x < 0 ∧ ¬ 120 < x → Q 1 I L r) (h0 : ¬ (¬ x < 0 ∧ ¬ 120 < x) → Q 0 I L r) : rt_Call G (d + 1) kX12_isLook [.int x] I L r Q :=
  v_X12_isLook _ _ _ _ (sX12_in (fun q => ⟨Or.inr rfl, h1 q⟩) (fun q => ⟨Or.inl rfl, h0 q⟩))
/-! levels -/
theorem sX12_heightOf {t p h s : Int32} (hp : 0 < p) (hQ : Q (hgt t p h s) I L r) : rt_Call G d kX12_heightOf [.int t, .int p, .int h, .int s] I L r Q := by
  refine v_X12_heightOf _ _ _ _ _ _ _ ⟨pos_ne hp, fun z => ⟨pos_ne hp, ?_⟩, fun z => ⟨pos_ne hp, ?_⟩⟩
  · unfold hgt at hQ
    rw [if_pos z] at hQ
    rw [Int32.mul_assoc]
    exact hQ
  · unfold hgt at hQ
    rw [if_neg z] at hQ
    rw [Int32.mul_assoc]
    exact hQ
theorem sX12_levelAt {t : Int32} (hn : I 108 7 = nI n) (h3 : n ≤ 3) (hp : tdok n (I 113)) (hQ : Q (lvl n (I 113) t) I L r) : rt_Call G (d + 1) kX12_levelAt [.ref 108, .int t] I L r Q := by
  refine v_X12_levelAt _ _ _ _ (rt_loop (P := fun k => rt_AW G (d + 1) kX12_levelAt Q 4 [some (.ref 108), some (.int t), some (.int (lvl k (I 113) t)), some (.int (nI k))] [] I L r) n ?_ ?_)
  · exact v_X12_levelAt_4 _ _ _ _ _ _ ⟨fun _ => hQ, fun z => absurd (by rw [hn]; exact Int32.le_refl _) z⟩
  · intro k hk ih
    have e0 : 3 * nI k = nI (k * 3) := by rw [Nat.mul_comm]; exact n_lm 3 k
    have e1 : 3 * nI k + 1 = nI (k * 3 + 1) := by rw [e0]; exact n_al _ 1
    have e2 : 3 * nI k + 2 = nI (k * 3 + 2) := by rw [e0]; exact n_al _ 2
    refine v_X12_levelAt_4 _ _ _ _ _ _ ⟨fun z => absurd ((n_le hn rfl (by omega) (by omega)).mp z) (by omega), fun _ => ⟨vp_nI e0 (by omega) (by omega), vp_nI e1 (by omega) (by omega), vp_nI e2 (by omega) (by omega), ?_⟩⟩
    rw [cl e0 (by omega), cl e1 (by omega), cl e2 (by omega)]
    refine sX12_heightOf (hp k hk) ?_
    rw [nI_1]
    exact ih
theorem sX12_isThere {w : Nat} {x t : Int32} (hx : x = nI w) (hw : w < 12) (hn : I 108 7 = nI n) (h3 : n ≤ 3) (hp : tdok n (I 113)) (h1 : thr n (I 113) (I 112) w t = true → Q 1 I L r) (h0 : thr n (I 113) (I 112) w t = false → Q 0 I L r) : rt_Call G (d + 2) kX12_isThere [.ref 108, .int x, .int t] I L r Q := by
  refine v_X12_isThere _ _ _ _ _ (sX12_levelAt hn h3 hp ⟨vp_nI hx hw (by omega), ?_⟩)
  rw [cl hx (by omega)]
  exact ⟨fun z => h0 (by simp [thr, z]), fun z => h1 (by simp [thr]; exact Int32.not_lt.mp z)⟩
theorem sX12_levelIn {t : Int32} (hn : I 108 7 = nI n) (h3 : n ≤ 3) (hp : tdok n (I 113)) (hQ : Q (lvl n (I 113) (I 109 64 + t)) I L r) : rt_Call G (d + 2) kX12_levelIn [.ref 108, .int t] I L r Q :=
  v_X12_levelIn _ _ _ _ (sX12_levelAt hn h3 hp hQ)
theorem sX12_comesIn {w : Nat} {x t : Int32} (hx : x = nI w) (hw : w < 12) (hn : I 108 7 = nI n) (h3 : n ≤ 3) (hp : tdok n (I 113)) (h1 : thr n (I 113) (I 112) w (I 109 64 + t) = true → Q 1 I L r) (h0 : thr n (I 113) (I 112) w (I 109 64 + t) = false → Q 0 I L r) : rt_Call G (d + 3) kX12_comesIn [.ref 108, .int x, .int t] I L r Q :=
  v_X12_comesIn _ _ _ _ _ (sX12_isThere hx hw hn h3 hp (fun q => ⟨Or.inr rfl, h1 q⟩) (fun q => ⟨Or.inl rfl, h0 q⟩))
/-! ends of roads, carts -/
theorem sX12_endOf {w j : Nat} {x y : Int32} (hx : x = nI w) (hw : w < 12) (hy : y = nI j) (hj : j < 2) (hQ : Q (I 109 (40 + 2 * w + j)) I L r) : rt_Call G d kX12_endOf [.ref 109, .int x, .int y] I L r Q := by
  have e : 40 + 2 * x + y = nI (40 + 2 * w + j) := by rw [hx, hy, show 2 * nI w = nI (2 * w) from n_lm 2 w, show 40 + nI (2 * w) = nI (40 + 2 * w) from n_la 40 _, nI_add]
  refine v_X12_endOf_now _ _ _ _ _ ⟨vp_nI e (by omega) (by omega), ?_⟩
  rw [cl e (by omega)]
  exact hQ
theorem sX12_beyond {w : Nat} {x p : Int32} (hx : x = nI w) (hw : w < 12) (hQ : Q (fend (I 109 (40 + 2 * w)) (I 109 (40 + 2 * w + 1)) p) I L r) : rt_Call G (d + 1) kX12_beyond [.ref 109, .int x, .int p] I L r Q := by
  unfold fend at hQ
  refine v_X12_beyond_now _ _ _ _ _ (sX12_endOf (j := 0) hx hw rfl (by omega) ⟨fun z => sX12_endOf (j := 1) hx hw rfl (by omega) ⟨fun z2 => ?_, fun z2 => sX12_endOf (j := 0) hx hw rfl (by omega) ?_⟩, fun z => sX12_endOf (j := 1) hx hw rfl (by omega) ?_⟩)
  all_goals simp only [Nat.add_zero] at *
  · rw [if_neg z, if_neg z2] at hQ; exact hQ
  · rw [if_neg z, if_pos z2] at hQ; exact hQ
  · rw [if_pos z] at hQ; exact hQ
theorem sX12_cartsAt {j : Nat} {y v : Int32} (hy : y = nI j) (hn : I 108 6 = nI n) (h5 : n ≤ 5) (hj : j < 8) (hQ : Q (bts (fun c => decide (I 109 (c * 8 + j) = v)) n) I L r) : rt_Call G d kX12_cartsAt [.ref 108, .int y, .int v] I L r Q := by
  refine v_X12_cartsAt _ _ _ _ _ (rt_loop (P := fun k => rt_AW G d kX12_cartsAt Q 5 [some (.ref 108), some (.int y), some (.int v), some (.int (bts (fun c => decide (I 109 (c * 8 + j) = v)) k)), some (.int (nI k))] [] I L r) n ?_ ?_)
  · exact v_X12_cartsAt_5 _ _ _ _ _ _ _ ⟨fun _ => hQ, fun z => absurd (by rw [hn]; exact Int32.le_refl _) z⟩
  · intro k hk ih
    have e : 8 * nI k + y = nI (k * 8 + j) := by rw [hy, show 8 * nI k = nI (8 * k) from n_lm 8 k, nI_add, Nat.mul_comm]
    refine v_X12_cartsAt_5 _ _ _ _ _ _ _ ⟨fun z => absurd ((n_le hn rfl (by omega) (by omega)).mp z) (by omega), fun _ => ⟨vp_nI e (by omega) (by omega), ?_⟩⟩
    rw [cl e (by omega), nI_1]
    unfold bts at ih
    refine ⟨fun z => ?_, fun z => ?_⟩
    · rw [if_neg (by simpa using z)] at ih
      rw [Int32.or_zero]
      exact ih
    · rw [if_pos (by simpa using z)] at ih
      exact ih
/-! reading -/
def mw (w : Option Nat) : Int32 := match w with
  | none => -1
  | some q => nI q
abbrev mp (J : rt_I) (p : Nat) (w : Option Nat) : rt_I := rt_u (rt_u J 108 18 (nI p)) 108 19 (mw w)
theorem mp_u (J : rt_I) (p c j : Nat) (w : Option Nat) (v : Int32) (h : c ≠ 108 ∨ (j ≠ 18 ∧ j ≠ 19)) : rt_u (mp J p w) c j v = mp (rt_u J c j v) p w := by
  unfold mp
  rw [rt_u_c (by rcases h with h | h; exact Or.inl (Ne.symm h); exact Or.inr (Ne.symm h.2)), rt_u_c (c := 108) (j := 18) (by rcases h with h | h; exact Or.inl (Ne.symm h); exact Or.inr (Ne.symm h.1))]
theorem mp_18 (J : rt_I) (p q : Nat) (w : Option Nat) : rt_u (mp J p w) 108 18 (nI q) = mp J q w := by
  unfold mp
  rw [rt_u_c (Or.inr (by decide)), rt_u_u]
theorem mp_19 (J : rt_I) (p : Nat) (w w' : Option Nat) : rt_u (mp J p w) 108 19 (mw w') = mp J p w' := by
  unfold mp
  rw [rt_u_u]
/-- what the model reads: cell b, l signs -/
def Rd (J : rt_I) (b l r : Nat) : Prop := r = b ∧ ((b = 114 ∧ l ≤ 80) ∨ (b = 120 ∧ l ≤ 40)) ∧ ∃ n m, J 108 16 = nI n ∧ J 108 17 = nI m ∧ l = min n m ∧ n < 1000 ∧ m < 1000
def mch (J : rt_I) (b l : Nat) : Nat → Int32 := ch (fun i => J b i &&& 255) l
variable {J : rt_I} {b l p : Nat} {w : Option Nat}
theorem sX12_here (hR : Rd J b l r) (hp : p < 1000) (hQ : Q (mch J b l p) (mp J p w) L r) : rt_Call G d kX12_here [.ref 108] (mp J p w) L r Q := by
  obtain ⟨rfl, hb, n, m, h1, h2, rfl, h3, h4⟩ := hR
  have key : ((nI n ≤ nI p → Q (-1) (mp J p w) L r) ∧ (¬ nI n ≤ nI p → ((nI m ≤ nI p → Q (-1) (mp J p w) L r) ∧ (¬ nI m ≤ nI p → p < min n m ∧ Q (J r p &&& 255) (mp J p w) L r)))) := by
    unfold mch ch at hQ
    refine ⟨fun z => ?_, fun z => ⟨fun z2 => ?_, fun z2 => ?_⟩⟩
    · have := (nI_leI (by omega) (by omega)).mp z
      rw [if_neg (by omega)] at hQ
      exact hQ
    · have := (nI_leI (by omega) (by omega)).mp z2
      rw [if_neg (by omega)] at hQ
      exact hQ
    · have a1 := mt (nI_leI (by omega) (by omega)).mpr z
      have a2 := mt (nI_leI (by omega) (by omega)).mpr z2
      rw [if_pos (by omega)] at hQ
      exact ⟨by omega, hQ⟩
  rcases hb with ⟨rfl, hb⟩ | ⟨rfl, hb⟩
  · refine v_X12_here_t _ _ ⟨fun z => key.1 (h1 ▸ z), fun z => ⟨fun z2 => (key.2 (h1 ▸ z)).1 (h2 ▸ z2), fun z2 => ?_⟩⟩
    obtain ⟨a, c⟩ := (key.2 (h1 ▸ z)).2 (h2 ▸ z2)
    refine ⟨vp_nI (n := p) rfl (by omega) (by omega), ?_⟩
    show Q (J 114 (nI p).toNatClampNeg &&& 255) _ _ _
    rw [nI_clamp (by omega)]
    exact c
  · refine v_X12_here_r _ _ ⟨fun z => key.1 (h1 ▸ z), fun z => ⟨fun z2 => (key.2 (h1 ▸ z)).1 (h2 ▸ z2), fun z2 => ?_⟩⟩
    obtain ⟨a, c⟩ := (key.2 (h1 ▸ z)).2 (h2 ▸ z2)
    refine ⟨vp_nI (n := p) rfl (by omega) (by omega), ?_⟩
    show Q (J 120 (nI p).toNatClampNeg &&& 255) _ _ _
    rw [nI_clamp (by omega)]
    exact c
theorem mw_none {w : Option Nat} (hw : ∀ q, w = some q → q < 1000) : mw w = -1 ↔ w = none := by
  cases w with
  | none => simp [mw]
  | some q => simp [mw]; exact n_ne1 (by have := hw q rfl; omega)
def wok (w : Option Nat) : Prop := ∀ q, w = some q → q < 1000
theorem sX12_fine (hw : wok w) (h1 : w = none → Q 1 (mp J p w) L r) (h0 : ¬ w = none → Q 0 (mp J p w) L r) : rt_Call G d kX12_fine [.ref 108] (mp J p w) L r Q :=
  v_X12_fine _ _ _ ⟨fun z => h0 (mt (mw_none hw).mpr z), fun z => h1 ((mw_none hw).mp z)⟩
theorem sX12_fault {q : Nat} (hw : wok w) (hQ : Q 0 (mp J p (w.or (some q))) L r) : rt_Call G (d + 1) kX12_fault [.ref 108, .int (nI q)] (mp J p w) L r Q := by
  refine v_X12_fault _ _ _ _ (sX12_fine hw (fun z => ⟨fun y => absurd y (by decide), fun _ => ?_⟩) (fun z => ⟨fun _ => ?_, fun y => absurd rfl y⟩))
  · subst z
    rw [show nI q = mw (some q) from rfl, mp_19]
    exact hQ
  · cases w with
    | none => exact absurd rfl z
    | some x => exact hQ
theorem sX12_passes {c : Int32} (hR : Rd J b l r) (hp : p < 1000) (hw : wok w) (h1 : w = none → mch J b l p = c → Q 1 (mp J (p + 1) w) L r) (h0 : ¬ (w = none ∧ mch J b l p = c) → Q 0 (mp J p w) L r) : rt_Call G (d + 1) kX12_passes [.ref 108, .int c] (mp J p w) L r Q := by
  refine v_X12_passes _ _ _ _ (sX12_fine hw (fun z => ⟨fun y => absurd y (by decide), fun _ => sX12_here hR hp ⟨fun y => ?_, fun y => h0 (fun q => y q.2)⟩⟩) (fun z => ⟨fun _ => h0 (fun q => z q.1), fun y => absurd rfl y⟩))
  rw [show (mp J p w) 108 18 = nI p from rfl, nI_1, mp_18]
  exact h1 z y
theorem sX12_need {c : Int32} (hR : Rd J b l r) (hp : p < 1000) (hw : wok w) (h1 : w = none → mch J b l p = c → Q 0 (mp J (p + 1) w) L r) (h0 : ¬ (w = none ∧ mch J b l p = c) → Q 0 (mp J p (w.or (some p))) L r) : rt_Call G (d + 2) kX12_need [.ref 108, .int c] (mp J p w) L r Q := by
  refine v_X12_need _ _ _ _ (sX12_passes hR hp hw (fun z y => ⟨fun _ => h1 z y, fun x => absurd x (by decide)⟩) (fun z => ⟨fun y => absurd rfl y, fun _ => ?_⟩))
  exact sX12_fault hw (h0 z)
end
