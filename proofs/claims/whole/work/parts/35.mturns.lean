/-! THE MODEL: TURNS that a road takes; the rule is told -/
def F8 (M I : rt_I) (cs : List Nat) : Prop := ∀ j, j ∉ cs → M 108 j = I 108 j
theorem F8.refl (I : rt_I) (cs : List Nat) : F8 I I cs := fun _ _ => rfl
theorem F8.u {M I : rt_I} {cs : List Nat} (h : F8 M I cs) {c j : Nat} {v : Int32} (hc : c = 108 → j ∈ cs) : F8 (rt_u M c j v) I cs := fun x hx => by
  rw [rt_u_ap, if_neg]
  · exact h x hx
  · rintro ⟨a, b⟩
    exact hx (by rw [b]; exact hc a.symm)
theorem F8.trans {A B C : rt_I} {cs : List Nat} (h1 : F8 A B cs) (h2 : F8 B C cs) : F8 A C cs := fun j hj => (h1 j hj).trans (h2 j hj)
theorem F8.mono {M I : rt_I} {cs ds : List Nat} (h : F8 M I cs) (hs : ∀ c ∈ cs, c ∈ ds) : F8 M I ds := fun c hc => h c (fun z => hc (hs c z))
/-- the model's rule means RV -/
def MRule (I : rt_I) (RV : RVT) : Prop := (∀ i, byok (I 120 i)) ∧ ((I 108 27 = 0 ∧ RV = rvd) ∨ ∃ n, 0 < n ∧ n ≤ 40 ∧ I 108 27 = nI n ∧ ∀ (s u h l w a : Int32) (vals : Nat → Int32), (∀ j, j < 6 → vals j = v6 s u h l w a j) → (lvR (ch (fun i => I 120 i &&& 255) n) vals 4 0 none).1 = RV s u h l w a)
theorem MRule.fr {M I : rt_I} {RV : RVT} (h : MRule I RV) (h6 : M 108 27 = I 108 27) (h7 : M 120 = I 120) : MRule M RV := by
  unfold MRule at *
  rw [h6, h7]
  exact h
section
variable {G : rt_G} {d : Nat} {Q : rt_Q} {I : rt_I} {L : rt_L} {r n : Nat}
theorem rmax0 {u : Int32} (h : u ≤ 0) : rt_max u 0 / 20 = 0 := by
  unfold rt_max
  by_cases h1 : u < 0
  · rw [if_pos h1]; decide
  · rw [if_neg h1, show u = 0 from Int32.le_antisymm h (Int32.not_lt.mp h1)]; decide
theorem rmax1 {u : Int32} (h : ¬ u ≤ 0) : rt_max u 0 = u := by
  unfold rt_max
  rw [if_neg (fun z => h (Int32.le_of_lt z))]
theorem le0 {n : Nat} (hn : 0 < n) (h : n < 2 ^ 31) : ¬ nI n ≤ 0 := fun z => absurd ((n_le (a := n) (b := 0) rfl rfl h (by omega)).mp z) (by omega)
theorem m_ask {RV : RVT} {n : Nat} {s u h ll w a : Int32} {J : rt_I} (h0 : 0 < n) (h40 : n ≤ 40) (hn : J 108 27 = nI n) (hby : ∀ i, byok (J 120 i)) (hv : ∀ (vals : Nat → Int32), (∀ j, j < 6 → vals j = v6 s u h ll w a j) → (lvR (ch (fun i => J 120 i &&& 255) n) vals 4 0 none).1 = RV s u h ll w a) (h121 : ∀ j, j < 6 → J 121 j = v6 s u h ll w a j)
    (hQ : ∀ M, Fr M J [108] → F8 M J [16, 17, 18, 19, 28] → M 108 28 = 0 → Q (clp (RV s u h ll w a)) M L 120) :
    rt_Call G (d + 130) kX12_begin [.ref 108, .ref 120, .int (J 108 27), .int 40] J L r (fun v1 I1 L1 r1 => rt_Call G (d + 130) kX12_held [.ref 108, .int 0] (rt_u I1 108 28 1) L1 r1 (fun v2 I2 L2 r2 => Q (rt_max 1 (rt_min 20 v2)) (rt_u I2 108 28 0) L2 r2)) := by
  refine v_X12_begin_r _ _ _ _ _ ?_
  rw [hn]
  obtain ⟨A, hA⟩ : ∃ A, A = rt_u (rt_u (rt_u J 108 16 (nI n)) 108 17 40) 108 28 1 := ⟨_, rfl⟩
  have e1 : rt_u (rt_u (rt_u (rt_u (rt_u J 108 16 (nI n)) 108 17 40) 108 18 0) 108 19 (-1)) 108 28 1 = mp A 0 none := by
    rw [hA]
    show _ = rt_u (rt_u (rt_u (rt_u (rt_u J 108 16 (nI n)) 108 17 40) 108 28 1) 108 18 0) 108 19 (-1)
    rw [rt_u_c (c := 108) (j := 19) (Or.inr (by decide)), rt_u_c (c := 108) (j := 18) (c2 := 108) (j2 := 28) (Or.inr (by decide))]
  rw [e1]
  have hR : Rd A 120 n 120 := ⟨rfl, Or.inr ⟨rfl, h40⟩, n, 40, by rw [hA]; rfl, by rw [hA]; rfl, by omega, by omega, by omega⟩
  have hB : ∀ i, byok (A 120 i) := fun i => by rw [hA]; exact hby i
  have hfA : Fr A J [108] := by rw [hA]; exact (((Fr.refl J _).u (by decide)).u (by decide)).u (by decide)
  have h8A : F8 A J [16, 17, 18, 19, 28] := by rw [hA]; exact (((F8.refl J _).u (fun _ => by decide)).u (fun _ => by decide)).u (fun _ => by decide)
  refine m_lv (by omega) hR hB 4 (by omega) 0 none (d + 130) _ (by omega) wokn (by omega) ?_
  have hval : (lvR (mch A 120 n) (gvl A) 4 0 none).1 = RV s u h ll w a := by
    have hc : mch A 120 n = ch (fun i => J 120 i &&& 255) n := by unfold mch; rw [hfA 120 (by decide)]
    rw [hc]
    refine hv (gvl A) (fun j hj => ?_)
    unfold gvl
    rw [if_neg (by rw [hA, rt_u_at]; decide), hfA 121 (by decide)]
    exact h121 j hj
  have hq := hQ (rt_u (mp A (lvR (mch A 120 n) (gvl A) 4 0 none).2.1 (lvR (mch A 120 n) (gvl A) 4 0 none).2.2) 108 28 0) (((hfA.u (by decide)).u (by decide)).u (by decide)) (((h8A.u (fun _ => by decide)).u (fun _ => by decide)).u (fun _ => by decide)) rt_u_at
  rw [← hval] at hq
  exact hq
theorem sX12_turnsOf {RV : RVT} {w p q : Nat} {x1 x2 x3 ll : Int32} (hRul : MRule I RV) (h1 : x1 = nI w) (hw : w < 12) (h2 : x2 = nI p) (hp : p < 8) (h3 : x3 = nI q) (hq : q < 8) (h28 : I 108 28 = 0)
    (hQ : ∀ M r', Fr M I [108, 121] → F8 M I [16, 17, 18, 19, 28] → M 108 28 = 0 → (r' = r ∨ r' = 120) → Q (tk RV (I 110) (I 111) (I 112) w p q ll) M L r') : rt_Call G (d + 131) kX12_turnsOf [.ref 108, .int x1, .int x2, .int x3, .int ll] I L r Q := by
  refine v_X12_turnsOf _ _ _ _ _ _ _ ⟨vp_nI h3 hq (by omega), vp_nI h2 hp (by omega), vp_nI h1 hw (by omega), ?_⟩
  rw [cl h1 (by omega), cl h2 (by omega), cl h3 (by omega)]
  have hfr : ∀ a0 a1 a2 a3 a4 a5 : Int32, Fr (rt_u (rt_u (rt_u (rt_u (rt_u (rt_u I 121 0 a0) 121 1 a1) 121 2 a2) 121 3 a3) 121 4 a4) 121 5 a5) I [108, 121] := fun a0 a1 a2 a3 a4 a5 => ((((((Fr.refl I _).u (by decide)).u (by decide)).u (by decide)).u (by decide)).u (by decide)).u (by decide)
  have hask : ¬ I 108 27 ≤ 0 → rt_Call G (d + 130) kX12_begin [.ref 108, .ref 120, .int (I 108 27), .int 40] (rt_u (rt_u (rt_u (rt_u (rt_u (rt_u I 121 0 (I 111 w)) 121 1 (I 110 q - I 110 p)) 121 2 (I 112 w)) 121 3 ll) 121 4 x1) 121 5 (I 110 p)) L r (fun v1 I1 L1 r1 => rt_Call G (d + 130) kX12_held [.ref 108, .int 0] (rt_u I1 108 28 1) L1 r1 (fun v2 I2 L2 r2 => Q (rt_max 1 (rt_min 20 v2)) (rt_u I2 108 28 0) L2 r2)) := by
    intro z
    rcases hRul with ⟨hby, ⟨h0, -⟩ | ⟨n, h0, h40, hn, hv⟩⟩
    · exact absurd (by rw [h0]; decide) z
    · refine m_ask (J := rt_u (rt_u (rt_u (rt_u (rt_u (rt_u I 121 0 (I 111 w)) 121 1 (I 110 q - I 110 p)) 121 2 (I 112 w)) 121 3 ll) 121 4 x1) 121 5 (I 110 p)) (n := n) (s := I 111 w) (u := I 110 q - I 110 p) (h := I 112 w) (ll := ll) (w := x1) (a := I 110 p) h0 h40 hn hby (fun vals hvals => hv _ _ _ _ _ _ vals hvals) (fun j hj => ?_) (fun M hM h8 hz => ?_)
      · match j with
        | 0 => rfl
        | 1 => rfl
        | 2 => rfl
        | 3 => rfl
        | 4 => rfl
        | 5 => rfl
        | j + 6 => omega
      · have hq := hQ M 120 ((hM.mono (by decide)).trans (hfr _ _ _ _ _ _)) (fun j hj => h8 j hj) hz (Or.inr rfl)
        unfold tk at hq
        rw [← h1] at hq
        exact hq
  have hdef : I 108 27 ≤ 0 → Q (clp (I 111 w + rt_max (I 110 q - I 110 p) 0 / 20)) I L r := by
    intro z
    rcases hRul with ⟨-, ⟨-, rfl⟩ | ⟨n, h0, h40, hn, -⟩⟩
    · exact hQ I r (Fr.refl _ _) (F8.refl _ _) h28 (Or.inl rfl)
    · exact absurd (hn ▸ z) (le0 h0 (by omega))
  have hv1 : vp_in x1 12 := vp_nI h1 hw (by omega)
  have hv2 : vp_in x2 8 := vp_nI h2 hp (by omega)
  refine ⟨fun z => ⟨fun z2 => ?_, fun z2 => ⟨hv1, hv1, hv2, hask z2⟩⟩, fun z => ⟨by decide, fun z2 => ?_, fun z2 => ⟨hv1, hv1, hv2, hask z2⟩⟩⟩
  · have := hdef z2
    rw [rmax0 z] at this
    exact this
  · have := hdef z2
    rw [rmax1 z] at this
    exact this
end
