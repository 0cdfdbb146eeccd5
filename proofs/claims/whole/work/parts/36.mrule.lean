/-! THE MODEL: rule() -/
theorem vnb {x : Int32} (h : byok x) : vp_nar .byte x = x := by rw [vp_nar_byte]; exact h
def endw (n p : Nat) (w : Option Nat) : Option Nat := if p < n then w.or (some p) else w
section
variable {G : rt_G} {d : Nat} {Q : rt_Q} {I : rt_I} {L : rt_L} {r n : Nat}
theorem neg1_sub {q : Nat} : (-1 : Int32) - mw (some q) = -1 - nI q := rfl
theorem m_copy {n : Nat} (hn : n ≤ 40) (hby : ∀ i, byok (I 114 i)) (hQ : ∀ M, Fr M I [108, 120] → F8 M I [27] → M 108 27 = nI n → (∀ i, i < n → M 120 i = I 114 i) → (∀ i, n ≤ i → M 120 i = I 120 i) → Q 0 M L r) : rt_AW G (d + 1) kX12_rule Q 73 [some (.ref 108), some (.int (nI n)), some (.int 0)] [] I L r := by
  refine rt_loop (P := fun k => ∀ M, Fr M I [108, 120] → M 108 = I 108 → (∀ i, i < k → M 120 i = I 114 i) → (∀ i, k ≤ i → M 120 i = I 120 i) → rt_AW G (d + 1) kX12_rule Q 73 [some (.ref 108), some (.int (nI n)), some (.int (nI k))] [] M L r) n ?_ ?_ I (Fr.refl _ _) rfl (fun i hi => absurd hi (by omega)) (fun _ _ => rfl)
  · intro M hF h108 h1 h2
    refine v_X12_rule_73 _ _ _ _ _ ⟨fun _ => ?_, fun z => absurd (Int32.le_refl _) z⟩
    refine hQ _ (hF.u (by decide)) ?_ rt_u_at (fun i hi => h1 i hi) (fun i hi => h2 i hi)
    intro j hj
    rw [rt_u_n (Or.inr (fun e => hj (by rw [e]; decide))), h108]
  · intro k hk ih M hF h108 h1 h2
    refine v_X12_rule_73 _ _ _ _ _ ⟨fun z => absurd ((nI_leI (by omega) (by omega)).mp z) (by omega), fun _ => ⟨vp_nI rfl (by omega) (by omega), vp_nI rfl (by omega) (by omega), ?_⟩⟩
    rw [cl rfl (by omega), nI_1, hF 114 (by decide), vnb (hby k)]
    refine ih _ (hF.u (by decide)) (by rw [rt_u_ne (by decide)]; exact h108) (fun i hi => ?_) (fun i hi => ?_)
    · by_cases e : i = k
      · subst e; exact rt_u_at
      · rw [rt_u_n (Or.inr e)]; exact h1 i (by omega)
    · rw [rt_u_n (Or.inr (by omega))]; exact h2 i (by omega)
/-- rule(): its text reads c, of n signs -/
theorem sX12_rule {c : Nat → Int32} (hn : I 108 11 = nI n) (h80 : n ≤ 80) (hby : ∀ i, byok (I 114 i)) (hc : c = ch (fun i => I 114 i &&& 255) (min n 40))
    (h0 : n = 0 → ∀ M r', Fr M I [108, 120] → F8 M I [11, 14, 16, 17, 18, 19, 27, 28] → M 108 11 = 0 → M 108 14 = 0 → M 108 28 = 0 → M 108 27 = 0 → M 120 = I 120 → Q 0 M L r')
    (hf : 0 < n → ∀ q, endw n (lvR c (fun _ => 0) 4 0 none).2.1 (lvR c (fun _ => 0) 4 0 none).2.2 = some q → ∀ M r', Fr M I [108] → F8 M I [11, 14, 16, 17, 18, 19, 28] → M 108 11 = 0 → M 108 14 = 0 → M 108 28 = 0 → Q (-1 - nI q) M L r')
    (ht : 0 < n → endw n (lvR c (fun _ => 0) 4 0 none).2.1 (lvR c (fun _ => 0) 4 0 none).2.2 = none → ∀ M r', Fr M I [108, 120] → F8 M I [11, 14, 16, 17, 18, 19, 27, 28] → M 108 11 = 0 → M 108 14 = 0 → M 108 28 = 0 → M 108 27 = nI n → (∀ i, i < n → M 120 i = I 114 i) → (∀ i, n ≤ i → M 120 i = I 120 i) → Q 0 M L r') : rt_Call G (d + 131) kX12_rule [.ref 108] I L r Q := by
  refine v_X12_rule _ _ _ (v_X12_begin_t _ _ _ _ _ ?_)
  rw [hn]
  obtain ⟨A, hA⟩ : ∃ A, A = rt_u (rt_u (rt_u (rt_u (rt_u I 108 14 0) 108 16 (nI n)) 108 17 40) 108 11 0) 108 28 0 := ⟨_, rfl⟩
  have e1 : rt_u (rt_u (rt_u (rt_u (rt_u (rt_u (rt_u I 108 14 0) 108 16 (nI n)) 108 17 40) 108 18 0) 108 19 (-1)) 108 11 0) 108 28 0 = mp A 0 none := by
    rw [hA]
    show _ = rt_u (rt_u (rt_u (rt_u (rt_u (rt_u (rt_u I 108 14 0) 108 16 (nI n)) 108 17 40) 108 11 0) 108 28 0) 108 18 0) 108 19 (-1)
    rw [rt_u_c (c := 108) (j := 19) (c2 := 108) (j2 := 11) (Or.inr (by decide)), rt_u_c (c := 108) (j := 18) (c2 := 108) (j2 := 11) (Or.inr (by decide)), rt_u_c (c := 108) (j := 19) (c2 := 108) (j2 := 28) (Or.inr (by decide)), rt_u_c (c := 108) (j := 18) (c2 := 108) (j2 := 28) (Or.inr (by decide))]
  rw [e1]
  have hfA : Fr A I [108] := by rw [hA]; exact (((((Fr.refl I _).u (by decide)).u (by decide)).u (by decide)).u (by decide)).u (by decide)
  have h8A : F8 A I [11, 14, 16, 17, 18, 19, 28] := by rw [hA]; exact (((((F8.refl I _).u (fun _ => by decide)).u (fun _ => by decide)).u (fun _ => by decide)).u (fun _ => by decide)).u (fun _ => by decide)
  have f1 : A 108 11 = 0 := by rw [hA]; rfl
  have f2 : A 108 14 = 0 := by rw [hA]; rfl
  have f3 : A 108 28 = 0 := by rw [hA]; rfl
  have hmF : ∀ p w, Fr (mp A p w) I [108] := fun p w => (hfA.u (by decide)).u (by decide)
  have hm8 : ∀ p w, F8 (mp A p w) I [11, 14, 16, 17, 18, 19, 28] := fun p w => (h8A.u (fun _ => by decide)).u (fun _ => by decide)
  have hfin : ∀ p w, (0 < n → endw n (lvR c (fun _ => 0) 4 0 none).2.1 (lvR c (fun _ => 0) 4 0 none).2.2 = none) → (n ≤ 40) → rt_AW G (d + 131) kX12_rule Q 73 [some (.ref 108), some (.int (nI n)), some (.int 0)] [] (mp A p w) L 114 := by
    intro p w hnn h40
    refine m_copy h40 (fun i => by rw [hmF p w 114 (by decide)]; exact hby i) (fun M hM h8 h27 hlo hhi => ?_)
    have a1 : Fr M I [108, 120] := hM.trans ((hmF p w).mono (by decide))
    have a2 : F8 M I [11, 14, 16, 17, 18, 19, 27, 28] := (h8.mono (by decide)).trans ((hm8 p w).mono (by decide))
    have a3 : M 108 11 = 0 := (h8 11 (by decide)).trans f1
    have a4 : M 108 14 = 0 := (h8 14 (by decide)).trans f2
    have a5 : M 108 28 = 0 := (h8 28 (by decide)).trans f3
    have a6 : ∀ i, i < n → M 120 i = I 114 i := fun i hi => by rw [hlo i hi, hmF p w 114 (by decide)]
    have a7 : ∀ i, n ≤ i → M 120 i = I 120 i := fun i hi => by rw [hhi i hi, hmF p w 120 (by decide)]
    by_cases h : n = 0
    · refine h0 h M 114 a1 a2 a3 a4 a5 (by rw [h27, h]; rfl) ?_
      funext i
      exact a7 i (by omega)
    · exact ht (by omega) (hnn (by omega)) M 114 a1 a2 a3 a4 a5 h27 a6 a7
  refine ⟨fun z => ?_, fun z => ?_⟩
  · have hz : n = 0 := by
      have := (n_le (a := n) (b := 0) rfl rfl (by omega) (by omega)).mp z
      omega
    exact hfin 0 none (fun h => by omega) (by omega)
  · have hz : 0 < n := by
      rcases Nat.eq_zero_or_pos n with h | h
      · exact absurd (by rw [h]; decide) z
      · exact h
    have hR : Rd A 114 (min n 40) 114 := ⟨rfl, Or.inl ⟨rfl, by omega⟩, n, 40, by rw [hA]; rfl, by rw [hA]; rfl, rfl, by omega, by omega⟩
    have hB : ∀ i, byok (A 114 i) := fun i => by rw [hfA 114 (by decide)]; exact hby i
    have hmc : mch A 114 (min n 40) = c := by rw [hc]; unfold mch; rw [hfA 114 (by decide)]
    have hg : gvl A = fun _ => 0 := by funext i; unfold gvl; rw [if_pos f3]
    have hgl := g_lv (f := fun i => A 114 i &&& 255) (g := gvl A) (l := min n 40) (by omega) 4 0 none (by omega) wokn
    refine m_lv (by omega) hR hB 4 (by omega) 0 none (d + 130) _ (by omega) wokn (by omega) ?_
    have hgl2 : 0 ≤ (lvR (mch A 114 (min n 40)) (gvl A) 4 0 none).2.1 ∧ (lvR (mch A 114 (min n 40)) (gvl A) 4 0 none).2.1 ≤ min n 40 ∧ wok (lvR (mch A 114 (min n 40)) (gvl A) 4 0 none).2.2 := hgl
    rw [hmc, hg] at hgl2 ⊢
    generalize hRR : lvR c (fun _ => 0) 4 0 none = R at *
    obtain ⟨v, p, w⟩ := R
    dsimp only at *
    have hend : ∀ w', endw n p w = w' → rt_Call G (d + 130) kX12_fine [.ref 108] (mp A p w') L 114 (fun v3 I3 L3 r3 => ((¬ v3 = 0 → rt_AW G (d + 131) kX12_rule Q 73 [some (.ref 108), some (.int (nI n)), some (.int 0)] [] I3 L3 r3) ∧ (v3 = 0 → Q ((-1) - (I3 108 19)) I3 L3 r3))) := by
      intro w' hw'
      have hok : wok w' := by
        rw [← hw']
        unfold endw
        split
        · exact wok_or hgl2.2.2 (by omega)
        · exact hgl2.2.2
      refine sX12_fine hok (fun y => ⟨fun _ => ?_, fun q => absurd q (by decide)⟩) (fun y => ⟨fun q => absurd rfl q, fun _ => ?_⟩)
      · subst y
        refine hfin p none (fun _ => hw') ?_
        unfold endw at hw'
        split at hw'
        · cases w <;> cases hw'
        · omega
      · cases w' with
        | none => exact absurd rfl y
        | some q => exact hf hz q hw' (mp A p (some q)) 114 (hmF _ _) (hm8 _ _) f1 f2 f3
    refine ⟨fun y => ?_, fun y => ?_⟩
    · have hle : n ≤ p := (n_le (a := n) (b := p) rfl rfl (by omega) (by omega)).mp y
      exact hend w (by unfold endw; rw [if_neg (by omega)])
    · have hle : ¬ n ≤ p := mt (n_le (a := n) (b := p) rfl rfl (by omega) (by omega)).mpr y
      exact sX12_fault (q := p) hgl2.2.2 (hend _ (by unfold endw; rw [if_pos (by omega)]))
end
