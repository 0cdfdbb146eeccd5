/-! THE RULE as it is reckoned; TURNS -/
def jn (o a b : Int32) : Int32 := if o = 42 then a * b else if o = 43 then a + b else if o = 45 then a - b else if o = 47 then (if b = 0 then 0 else a / b) else if o = 60 then (if b ≤ a then 0 else 1) else if o = 62 then (if a ≤ b then 0 else 1) else if a = b then 1 else 0
def vof (vals : Nat → Int32) (x : Int32) : Int32 := if x < 0 then 0 else if 6 ≤ x then 0 else vals x.toNatClampNeg
def rk1 (one : Int32) (vals : Nat → Int32) (s : Nat × (Nat → Int32)) : Nat × (Nat → Int32) :=
  if 2000 ≤ one then
    if one = 2126 then (if s.1 = 0 then s else (s.1, upd s.2 (s.1 - 1) (-(s.2 (s.1 - 1)))))
    else if s.1 ≤ 1 then s else (s.1 - 1, upd s.2 (s.1 - 2) (jn (one - 2000) (s.2 (s.1 - 2)) (s.2 (s.1 - 1))))
  else if 40 ≤ s.1 then s else (s.1 + 1, upd s.2 s.1 (if 1000 ≤ one then vof vals (one - 1000) else one))
def rkF (code vals : Nat → Int32) : Nat → Nat × (Nat → Int32) → Nat × (Nat → Int32)
  | 0, s => s
  | k + 1, s => rk1 (code k) vals (rkF code vals k s)
theorem rk1_top {one : Int32} {vals : Nat → Int32} {s : Nat × (Nat → Int32)} (h : s.1 ≤ 40) : (rk1 one vals s).1 ≤ 40 := by
  unfold rk1
  repeat' split
  all_goals (try simp only)
  all_goals omega
theorem rkF_top {code vals : Nat → Int32} {s : Nat × (Nat → Int32)} (h : s.1 ≤ 40) : ∀ k, (rkF code vals k s).1 ≤ 40
  | 0 => h
  | k + 1 => rk1_top (rkF_top h k)
def v6 (s u h l w a : Int32) : Nat → Int32 := fun j => match j with
  | 0 => s
  | 1 => u
  | 2 => h
  | 3 => l
  | 4 => w
  | 5 => a
  | _ => 0
abbrev RVT : Type := Int32 → Int32 → Int32 → Int32 → Int32 → Int32 → Int32
def rvd : RVT := fun s u _ _ _ _ => s + rt_max u 0 / 20
/-- the class's rule means RV -/
def XRule (I : rt_I) (RV : RVT) : Prop := (I 6 1 = 0 ∧ RV = rvd) ∨ ∃ n, 0 < n ∧ n ≤ 40 ∧ I 6 1 = nI n ∧ ∀ (s u h l w a : Int32) (vals stk : Nat → Int32), (∀ j, j < 6 → vals j = v6 s u h l w a j) → (rkF (I 7) vals n (0, stk)).2 0 = RV s u h l w a
theorem XRule.fr {M I : rt_I} {RV : RVT} (h : XRule I RV) (h6 : M 6 1 = I 6 1) (h7 : M 7 = I 7) : XRule M RV := by
  unfold XRule at *
  rw [h6, h7]
  exact h
def clp (v : Int32) : Int32 := rt_max 1 (rt_min 20 v)
theorem clp_ex (v : Int32) : ∃ k, 1 ≤ k ∧ k ≤ 20 ∧ clp v = nI k := by
  unfold clp rt_max rt_min
  by_cases h : v < 20
  · rw [if_pos h]
    by_cases h1 : (1 : Int32) < v
    · rw [if_pos h1]
      have hn : ¬ v < 0 := fun z => absurd (Int32.lt_trans h1 z) (by decide)
      obtain ⟨j, hj, rfl⟩ := nI_of hn
      refine ⟨j, ?_, ?_, rfl⟩
      · have := (n_lt (a := 1) (b := j) rfl rfl (by omega) hj).mp h1
        omega
      · have := (n_lt (a := j) (b := 20) rfl rfl hj (by omega)).mp h
        omega
    · rw [if_neg h1]
      exact ⟨1, by omega, by omega, rfl⟩
  · rw [if_neg h]
    exact ⟨20, by omega, by omega, rfl⟩
section
variable {G : rt_G} {d : Nat} {Q : rt_Q} {I : rt_I} {L : rt_L} {r n : Nat}
theorem sX6_join {o a b : Int32} (hQ : Q (jn o a b) I L r) : rt_Call G d kX6_join [.int o, .int a, .int b] I L r Q := by
  unfold jn at hQ
  refine v_X6_join _ _ _ _ _ _ ?_
  refine ⟨fun z => ?_, fun z1 => ⟨fun z => ?_, fun z2 => ⟨fun z => ?_, fun z3 => ⟨fun z => ⟨fun y => ⟨y, ?_⟩, fun y => ?_⟩, fun z4 => ⟨fun z => ⟨fun y => ?_, fun y => ?_⟩, fun z5 => ⟨fun z => ⟨fun y => ?_, fun y => ?_⟩, fun z6 => ⟨fun y => ?_, fun y => ?_⟩⟩⟩⟩⟩⟩⟩
  · rw [if_pos z] at hQ; exact hQ
  · rw [if_neg z1, if_pos z] at hQ; exact hQ
  · rw [if_neg z1, if_neg z2, if_pos z] at hQ; exact hQ
  · rw [if_neg z1, if_neg z2, if_neg z3, if_pos z, if_neg y] at hQ; exact hQ
  · rw [if_neg z1, if_neg z2, if_neg z3, if_pos z, if_pos y] at hQ; exact hQ
  · rw [if_neg z1, if_neg z2, if_neg z3, if_neg z4, if_pos z, if_pos y] at hQ; exact hQ
  · rw [if_neg z1, if_neg z2, if_neg z3, if_neg z4, if_pos z, if_neg y] at hQ; exact hQ
  · rw [if_neg z1, if_neg z2, if_neg z3, if_neg z4, if_neg z5, if_pos z, if_pos y] at hQ; exact hQ
  · rw [if_neg z1, if_neg z2, if_neg z3, if_neg z4, if_neg z5, if_pos z, if_neg y] at hQ; exact hQ
  · rw [if_neg z1, if_neg z2, if_neg z3, if_neg z4, if_neg z5, if_neg z6, if_neg y] at hQ; exact hQ
  · rw [if_neg z1, if_neg z2, if_neg z3, if_neg z4, if_neg z5, if_neg z6, if_pos y] at hQ; exact hQ
theorem sX6_valueOf {x : Int32} (hQ : Q (vof (I 11) x) I L r) : rt_Call G d kX6_valueOf [.ref 6, .int x] I L r Q := by
  unfold vof at hQ
  refine v_X6_valueOf _ _ _ _ ⟨fun z => ?_, fun z => ⟨fun z2 => ?_, fun z2 => ⟨?_, ?_⟩⟩⟩
  · rw [if_pos z] at hQ; exact hQ
  · rw [if_neg z, if_pos z2] at hQ; exact hQ
  · obtain ⟨j, hj, rfl⟩ := nI_of z
    have h6 : j < 6 := by
      have := mt (n_le (a := 6) (b := j) rfl rfl (by omega) hj).mpr z2
      omega
    exact vp_nI rfl h6 (by omega)
  · rw [if_neg z, if_neg z2] at hQ; exact hQ
theorem upd_rt {M : rt_I} {c j : Nat} {v : Int32} : rt_u M c j v = rt_uA M c (upd (M c) j v) := rfl
set_option maxHeartbeats 1000000 in
theorem sX6_reckon (hn : I 6 1 = nI n) (h40 : n ≤ 40) (hQ : ∀ M, Fr M I [10] → Q ((rkF (I 7) (I 11) n (0, I 10)).2 0) M L r) : rt_Call G (d + 1) kX6_reckon [.ref 6] I L r Q := by
  refine v_X6_reckon _ _ _ (rt_loop (P := fun k => ∀ M, Fr M I [10] → M 10 = (rkF (I 7) (I 11) k (0, I 10)).2 → rt_AW G (d + 1) kX6_reckon Q 4 [some (.ref 6), some (.int (nI (rkF (I 7) (I 11) k (0, I 10)).1)), some (.int (nI k)), none] [] M L r) n ?_ ?_ I (Fr.refl _ _) rfl)
  · intro M hF h10
    refine v_X6_reckon_4 _ _ _ _ _ ⟨fun _ => ?_, fun z => absurd (by rw [hF 6 (by decide), hn]; exact Int32.le_refl _) z⟩
    rw [h10]
    exact hQ M hF
  · intro k hk ih M hF h10
    have h6 := hF 6 (by decide)
    have h7 := hF 7 (by decide)
    have h11 := hF 11 (by decide)
    have htop := rkF_top (code := I 7) (vals := I 11) (s := (0, I 10)) (Nat.zero_le _) k
    unfold rkF at ih
    generalize hs : rkF (I 7) (I 11) k (0, I 10) = s at *
    refine v_X6_reckon_4 _ _ _ _ _ ⟨fun z => absurd ((n_le (by rw [h6]; exact hn) rfl (by omega) (by omega)).mp z) (by omega), fun _ => ⟨vp_nI rfl (by omega) (by omega), ?_⟩⟩
    rw [cl rfl (by omega), h7, nI_1]
    refine ⟨fun z1 => ⟨fun z2 => ⟨fun z3 => ?_, fun z3 => ?_⟩, fun z2 => ⟨fun z3 => ?_, fun z3 => ?_⟩⟩, fun z1 => ⟨fun z2 => ?_, fun z2 => ⟨fun z3 => ?_, fun z3 => ?_⟩⟩⟩
    · have hle : s.1 ≤ 1 := (n_le (a := s.1) (b := 1) rfl rfl (by omega) (by omega)).mp z3
      rw [show rk1 (I 7 k) (I 11) s = s by unfold rk1; rw [if_pos z1, if_neg z2, if_pos hle]] at ih
      exact ih M hF h10
    · have hlt : ¬ s.1 ≤ 1 := mt (n_le (a := s.1) (b := 1) rfl rfl (by omega) (by omega)).mpr z3
      obtain ⟨t, ht⟩ : ∃ t, s.1 = t + 2 := ⟨s.1 - 2, by omega⟩
      have e1 : nI s.1 + -1 = nI (t + 1) := by rw [ht]; exact pk_m1 (t + 1)
      have e2 : nI s.1 + -1 - 1 = nI t := by rw [e1]; exact nI_pred t
      rw [show rk1 (I 7 k) (I 11) s = (t + 1, upd s.2 t (jn (I 7 k - 2000) (s.2 t) (s.2 (t + 1)))) by unfold rk1; rw [if_pos z1, if_neg z2, if_neg hlt, ht]; rfl] at ih
      rw [e2, e1]
      refine ⟨vp_nI rfl (by omega) (by omega), vp_nI rfl (by omega) (by omega), ?_⟩
      rw [cl rfl (by omega), cl rfl (by omega)]
      refine sX6_join ⟨vp_nI rfl (by omega) (by omega), ih _ (hF.u (by decide)) ?_⟩
      rw [rt_u_eq, h10]
    · have h0 : s.1 = 0 := by
        have := (n_le (a := s.1) (b := 0) rfl rfl (by omega) (by omega)).mp z3
        omega
      rw [show rk1 (I 7 k) (I 11) s = s by unfold rk1; rw [if_pos z1, if_pos z2, if_pos h0]] at ih
      exact ih M hF h10
    · have h0 : ¬ s.1 = 0 := fun e => z3 (by rw [e]; exact Int32.le_refl _)
      obtain ⟨t, ht⟩ : ∃ t, s.1 = t + 1 := ⟨s.1 - 1, by omega⟩
      have e1 : nI s.1 - 1 = nI t := by rw [ht]; exact nI_pred t
      rw [show rk1 (I 7 k) (I 11) s = (s.1, upd s.2 t (-(s.2 t))) by unfold rk1; rw [if_pos z1, if_pos z2, if_neg h0, ht]; rfl] at ih
      rw [e1]
      refine ⟨vp_nI rfl (by omega) (by omega), vp_nI rfl (by omega) (by omega), ?_⟩
      rw [cl rfl (by omega)]
      refine ih _ (hF.u (by decide)) ?_
      rw [rt_u_eq, h10]
    · have hle : 40 ≤ s.1 := (n_le (a := 40) (b := s.1) rfl rfl (by omega) (by omega)).mp z2
      rw [show rk1 (I 7 k) (I 11) s = s by unfold rk1; rw [if_neg z1, if_pos hle]] at ih
      exact ih M hF h10
    · have hle : ¬ 40 ≤ s.1 := mt (n_le (a := 40) (b := s.1) rfl rfl (by omega) (by omega)).mpr z2
      rw [show rk1 (I 7 k) (I 11) s = (s.1 + 1, upd s.2 s.1 (vof (I 11) (I 7 k - 1000))) by unfold rk1; rw [if_neg z1, if_neg hle, if_pos z3]] at ih
      refine sX6_valueOf ⟨vp_nI rfl (by omega) (by omega), ?_⟩
      rw [cl rfl (by omega), nI_1, h11]
      refine ih _ (hF.u (by decide)) ?_
      rw [rt_u_eq, h10]
    · have hle : ¬ 40 ≤ s.1 := mt (n_le (a := 40) (b := s.1) rfl rfl (by omega) (by omega)).mpr z2
      rw [show rk1 (I 7 k) (I 11) s = (s.1 + 1, upd s.2 s.1 (I 7 k)) by unfold rk1; rw [if_neg z1, if_neg hle, if_neg z3]] at ih
      refine ⟨vp_nI rfl (by omega) (by omega), ?_⟩
      rw [cl rfl (by omega), nI_1]
      refine ih _ (hF.u (by decide)) ?_
      rw [rt_u_eq, h10]
theorem sX6_turnsOf {RV : RVT} {s u h l w a : Int32} (hR : XRule I RV) (hQ : ∀ M, Fr M I [10, 11] → Q (clp (RV s u h l w a)) M L r) : rt_Call G (d + 2) kX6_turnsOf [.ref 6, .int s, .int u, .int h, .int l, .int w, .int a] I L r Q := by
  have hf : Fr (rt_u (rt_u (rt_u (rt_u (rt_u (rt_u I 11 0 s) 11 1 u) 11 2 h) 11 3 l) 11 4 w) 11 5 a) I [10, 11] := ((((((Fr.refl I _).u (by decide)).u (by decide)).u (by decide)).u (by decide)).u (by decide)).u (by decide)
  refine v_X6_turnsOf _ _ _ _ _ _ _ _ _ ⟨fun z => ?_, fun z => ⟨by decide, ?_⟩⟩
  · rcases hR with ⟨h0, -⟩ | ⟨n, h1, h40, hn, hv⟩
    · exact absurd h0 z
    · refine sX6_reckon (n := n) hn h40 (fun M hM => ?_)
      have hq := hQ M ((hM.mono (by decide)).trans hf)
      rw [← hv s u h l w a (rt_u (rt_u (rt_u (rt_u (rt_u (rt_u I 11 0 s) 11 1 u) 11 2 h) 11 3 l) 11 4 w) 11 5 a 11) (I 10) (fun j hj => by
        match j with
        | 0 => rfl
        | 1 => rfl
        | 2 => rfl
        | 3 => rfl
        | 4 => rfl
        | 5 => rfl
        | j + 6 => omega)] at hq
      exact hq
  · rcases hR with ⟨h0, rfl⟩ | ⟨n, h1, h40, hn, hv⟩
    · exact hQ _ hf
    · exact absurd ((n_eq hn (show (0 : Int32) = nI 0 from rfl) (by omega) (by omega)).mp z) (by omega)
/-- TURNS that a road takes, by the class's numbers -/
def tk (RV : RVT) (ph st rh : Nat → Int32) (w p q : Nat) (l : Int32) : Int32 := clp (RV (st w) (ph q - ph p) (rh w) l (nI w) (ph p))
theorem sX9_turnsBy {RV : RVT} {w p q : Nat} {x1 x2 x3 l : Int32} (hR : XRule I RV) (h1 : x1 = nI w) (hw : w < 12) (h2 : x2 = nI p) (hp : p < 8) (h3 : x3 = nI q) (hq : q < 8) (hQ : ∀ M, Fr M I [10, 11] → Q (tk RV (I 13) (I 14) (I 15) w p q l) M L r) : rt_Call G (d + 3) kX9_turnsBy [.ref 20, .int x1, .int x2, .int x3, .int l] I L r Q := by
  refine v_X9_turnsBy _ _ _ _ _ _ _ ⟨vp_nI h2 hp (by omega), vp_nI h3 hq (by omega), vp_nI h1 hw (by omega), vp_nI h1 hw (by omega), ?_⟩
  rw [cl h1 (by omega), cl h2 (by omega), cl h3 (by omega), h1]
  exact sX6_turnsOf hR hQ
end
