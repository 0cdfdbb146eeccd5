/-! THE MODEL: held, sum, product, thing keep to the pictures of part 33 -/
section
variable {G : rt_G} {L : rt_L} {r : Nat} {J : rt_I} {b l : Nat}
/-- a method that reads on keeps to T, if there is depth enough -/
def cT (G : rt_G) (L : rt_L) (r : Nat) (J : rt_I) (l : Nat) (K : rt_K) (x : Int32) (B : Nat) (T : TT) : Prop := ∀ (p : Nat) (w : Option Nat) (d : Nat) (Q : rt_Q), p ≤ l → wok w → B ≤ d + p → Q (T p w).1 (mp J (T p w).2.1 (T p w).2.2) L r → rt_Call G d K [.ref 108, .int x] (mp J p w) L r Q
theorem mp_inc (J : rt_I) (p : Nat) (w : Option Nat) : rt_u (mp J p w) 108 18 ((mp J p w) 108 18 + 1) = mp J (p + 1) w := by rw [show (mp J p w) 108 18 = nI p from rfl, nI_1, mp_18]
def gvl (J : rt_I) : Nat → Int32 := fun i => if J 108 28 = 0 then 0 else J 121 i
theorem sX12_letterOf {d : Nat} {Q : rt_Q} {I : rt_I} {c : Int32} (hQ : Q (lof c) I L r) : rt_Call G d kX12_letterOf [.int c] I L r Q := by
  unfold lof at hQ
  refine v_X12_letterOf _ _ _ _ ⟨fun z1 => ⟨fun z2 => ⟨fun z3 => ⟨fun z4 => ⟨fun z5 => ⟨fun z6 => ?_, fun z6 => ?_⟩, fun z5 => ?_⟩, fun z4 => ?_⟩, fun z3 => ?_⟩, fun z2 => ?_⟩, fun z1 => ?_⟩
  · rw [if_neg z1, if_neg z2, if_neg z3, if_neg z4, if_neg z5, if_neg z6] at hQ; exact hQ
  · rw [if_neg z1, if_neg z2, if_neg z3, if_neg z4, if_neg z5, if_pos z6] at hQ; exact hQ
  · rw [if_neg z1, if_neg z2, if_neg z3, if_neg z4, if_pos z5] at hQ; exact hQ
  · rw [if_neg z1, if_neg z2, if_neg z3, if_pos z4] at hQ; exact hQ
  · rw [if_neg z1, if_neg z2, if_pos z3] at hQ; exact hQ
  · rw [if_neg z1, if_pos z2] at hQ; exact hQ
  · rw [if_pos z1] at hQ; exact hQ
theorem m_at {d : Nat} {Q : rt_Q} {p : Nat} (hl : l ≤ 80) (hR : Rd J b l r) (hB : ∀ i, byok (J b i)) (hp : p ≤ l) (hQ : Q (atR (mch J b l) (gvl J) p).1 (mp J (atR (mch J b l) (gvl J) p).2.1 (atR (mch J b l) (gvl J) p).2.2) L r) :
    rt_Call G (d + 6) kX12_in [.int (mch J b l p), .int 48, .int 57] (mp J p none) L r (fun v4 I4 L4 r4 => ((v4 = 0 → rt_Call G (d + 6) kX12_letterOf [.int (mch J b l p)] I4 L4 r4 (fun v5 I5 L5 r5 => ((¬ v5 = (-1) → (((I5 108 28) = 0 → Q (0) (rt_u I5 108 18 ((I5 108 18) + (1))) L5 r5) ∧ (¬ (I5 108 28) = 0 → rt_Call G (d + 6) kX12_letterOf [.int (mch J b l p)] (rt_u I5 108 18 ((I5 108 18) + (1))) L5 r5 (fun v6 I6 L6 r6 => (vp_in v6 6 ∧ Q (I6 121 (v6.toNatClampNeg)) I6 L6 r6))))) ∧ (v5 = (-1) → rt_Call G (d + 6) kX12_fault [.ref 108, .int (I5 108 18)] I5 L5 r5 (fun v7 I7 L7 r7 => Q (0) I7 L7 r7))))) ∧ (¬ v4 = 0 → rt_Call G (d + 6) kX12_number [.ref 108, .int (3)] I4 L4 r4 (fun v8 I8 L8 r8 => Q v8 I8 L8 r8)))) := by
  unfold atR at hQ
  refine sX12_in (fun q => ⟨fun y => absurd y (by decide), fun _ => ?_⟩) (fun q => ⟨fun _ => sX12_letterOf ⟨fun y => ⟨fun z => ?_, fun z => sX12_letterOf ⟨?_, ?_⟩⟩, fun y => ?_⟩, fun y => absurd rfl y⟩)
  · rw [if_pos ((dg_iff _).mpr q)] at hQ
    exact sX12_number (k := 3) (by omega) (by omega) hR hB (by omega) wokn hQ
  · rw [if_neg (mt (dg_iff _).mp q), if_neg y] at hQ
    rw [mp_inc]
    rw [show gvl J (lof (mch J b l p)).toNatClampNeg = 0 from if_pos z] at hQ
    exact hQ
  · rcases lof_ex (mch J b l p) with h | ⟨k, hk, e⟩
    · exact absurd h y
    · exact vp_nI e hk (by omega)
  · rw [if_neg (mt (dg_iff _).mp q), if_neg y] at hQ
    rw [mp_inc]
    rw [show gvl J (lof (mch J b l p)).toNatClampNeg = J 121 (lof (mch J b l p)).toNatClampNeg from if_neg z] at hQ
    exact hQ
  · rw [if_neg (mt (dg_iff _).mp q), if_pos y] at hQ
    exact sX12_fault (q := p) wokn hQ
theorem m_th {x : Int32} {B : Nat} {H : Option TT} (hl : l ≤ 80) (hR : Rd J b l r) (hB : ∀ i, byok (J b i)) (h90 : 100 ≤ B)
    (hH : ∀ T, H = some T → ¬ 4 ≤ x ∧ gT l T ∧ cT G L r J l kX12_held (x + 1) B T) (hN : H = none → 4 ≤ x) : ∀ k, ∀ (p : Nat) (w : Option Nat) (d : Nat) (Q : rt_Q), p ≤ l → l < k + p → wok w → B ≤ d + p → Q (thR (mch J b l) (gvl J) H k p w).1 (mp J (thR (mch J b l) (gvl J) H k p w).2.1 (thR (mch J b l) (gvl J) H k p w).2.2) L r → rt_Call G d kX12_thing [.ref 108, .int x] (mp J p w) L r Q := by
  intro k
  induction k with
  | zero => intro p w d Q hp hk; omega
  | succ k ih =>
    intro p w d Q hp hk hw hd hQ
    obtain ⟨e, rfl⟩ : ∃ e, d = e + 12 := ⟨d - 12, by omega⟩
    unfold thR at hQ
    refine v_X12_thing _ _ _ _ (sX12_passes hR (by omega) hw (fun z y => ⟨fun q => absurd q (by decide), fun _ => ?_⟩) (fun z => ⟨fun _ => sX12_fine hw (fun z2 => ⟨fun _ => ?_, fun q => absurd q (by decide)⟩) (fun z2 => ⟨fun q => absurd rfl q, fun _ => ?_⟩), fun q => absurd rfl q⟩))
    · have hlt := ch_lt (by decide) y
      rw [if_pos ⟨z, y⟩] at hQ
      subst z
      exact ih (p + 1) none (e + 11) _ (by omega) (by omega) wokn (by omega) hQ
    · rw [if_neg z, if_neg (fun q => q z2)] at hQ
      subst z2
      refine sX12_here hR (by omega) ⟨fun y => ?_, fun y => ⟨fun y2 => ?_, fun y2 => ?_⟩⟩
      · refine m_at hl hR hB hp ?_
        cases H with
        | none => exact hQ
        | some T =>
          dsimp only at hQ
          rw [if_neg y] at hQ
          exact hQ
      · refine m_at hl hR hB hp ?_
        cases H with
        | none => exact hQ
        | some T => exact absurd y2 (hH T rfl).1
      · cases H with
        | none => exact absurd (hN rfl) y2
        | some T =>
          dsimp only at hQ
          rw [if_pos y] at hQ
          obtain ⟨-, hg, hc⟩ := hH T rfl
          have hlt := ch_lt (by decide) y
          have h4 := hg (p + 1) none hlt wokn
          rw [mp_inc]
          refine hc (p + 1) none (e + 11) _ hlt wokn (by omega) ?_
          unfold clR at hQ
          exact sX12_need hR (by omega) h4.2.2 (fun a c => by rw [if_pos ⟨a, c⟩] at hQ; rw [a]; exact hQ) (fun a => by rw [if_neg a] at hQ; exact hQ)
    · rw [if_neg z, if_pos z2] at hQ
      exact hQ
theorem m_prL {x : Int32} {B : Nat} {T : TT} (hl : l ≤ 80) (hR : Rd J b l r) (h90 : 100 ≤ B) (hg : gT l T) (hc : cT G L r J l kX12_thing x B T) : ∀ k, ∀ (v : Int32) (p : Nat) (w : Option Nat) (d : Nat) (Q : rt_Q), p ≤ l → l < k + p → wok w → B + 1 ≤ d + p → Q (prL (mch J b l) T k v p w).1 (mp J (prL (mch J b l) T k v p w).2.1 (prL (mch J b l) T k v p w).2.2) L r → rt_AW G d kX12_product Q 6 [some (.ref 108), some (.int x), some (.int v), none, none] [] (mp J p w) L r := by
  intro k
  induction k with
  | zero => intro v p w d Q hp hk; omega
  | succ k ih =>
    intro v p w d Q hp hk hw hd hQ
    obtain ⟨e, rfl⟩ : ∃ e, d = e + 12 := ⟨d - 12, by omega⟩
    unfold prL at hQ
    refine v_X12_product_6 _ _ _ _ _ (sX12_fine hw (fun z => ⟨fun q => absurd q (by decide), fun _ => sX12_here hR (by omega) ⟨fun y => sX12_here hR (by omega) ⟨fun q => absurd y q, fun _ => ?_⟩, fun y => sX12_here hR (by omega) ⟨fun y2 => ?_, fun y2 => sX12_here hR (by omega) ⟨fun _ => ?_, fun q => absurd q y⟩⟩⟩⟩) (fun z => ⟨fun _ => ?_, fun q => absurd rfl q⟩))
    · rw [if_pos ⟨z, y⟩] at hQ
      subst z
      have hlt := ch_lt (by decide) y
      have h2 := hg (p + 1) none hlt wokn
      rw [mp_inc]
      exact hc (p + 1) none (e + 11) _ hlt wokn (by omega) (ih _ _ _ (e + 12) Q h2.2.1 (by omega) h2.2.2 (by omega) hQ)
    · rw [if_neg (fun q => y q.2), if_neg (fun q => y2 q.2)] at hQ
      exact hQ
    · rw [if_neg (fun q => y q.2), if_pos ⟨z, y2⟩] at hQ
      subst z
      have hlt := ch_lt (by decide) y2
      have h2 := hg (p + 1) none hlt wokn
      rw [mp_inc]
      refine hc (p + 1) none (e + 11) _ hlt wokn (by omega) ⟨fun q => ⟨q, ?_⟩, fun q => ?_⟩
      · rw [if_neg q] at hQ
        exact ih _ _ _ (e + 12) Q h2.2.1 (by omega) h2.2.2 (by omega) hQ
      · rw [if_pos q] at hQ
        exact ih _ _ _ (e + 12) Q h2.2.1 (by omega) h2.2.2 (by omega) hQ
    · rw [if_neg (fun q => z q.1), if_neg (fun q => z q.1)] at hQ
      exact hQ
theorem m_pr {x : Int32} {B : Nat} {T : TT} (hl : l ≤ 80) (hR : Rd J b l r) (h90 : 100 ≤ B) (hg : gT l T) (hc : cT G L r J l kX12_thing x B T) : cT G L r J l kX12_product x (B + 1) (prR (mch J b l) T) := by
  intro p w d Q hp hw hd hQ
  obtain ⟨e, rfl⟩ : ∃ e, d = e + 12 := ⟨d - 12, by omega⟩
  have h2 := hg p w hp hw
  exact v_X12_product _ _ _ _ (hc p w (e + 11) _ hp hw (by omega) (m_prL hl hR h90 hg hc 90 _ _ _ (e + 12) Q h2.2.1 (by omega) h2.2.2 (by omega) hQ))
theorem m_smL {x : Int32} {B : Nat} {T : TT} (hl : l ≤ 80) (hR : Rd J b l r) (h90 : 100 ≤ B) (hg : gT l T) (hc : cT G L r J l kX12_product x B T) : ∀ k, ∀ (v : Int32) (p : Nat) (w : Option Nat) (d : Nat) (Q : rt_Q), p ≤ l → l < k + p → wok w → B + 1 ≤ d + p → Q (smL (mch J b l) T k v p w).1 (mp J (smL (mch J b l) T k v p w).2.1 (smL (mch J b l) T k v p w).2.2) L r → rt_AW G d kX12_sum Q 6 [some (.ref 108), some (.int x), some (.int v), none, none] [] (mp J p w) L r := by
  intro k
  induction k with
  | zero => intro v p w d Q hp hk; omega
  | succ k ih =>
    intro v p w d Q hp hk hw hd hQ
    obtain ⟨e, rfl⟩ : ∃ e, d = e + 12 := ⟨d - 12, by omega⟩
    unfold smL at hQ
    refine v_X12_sum_6 _ _ _ _ _ (sX12_fine hw (fun z => ⟨fun q => absurd q (by decide), fun _ => sX12_here hR (by omega) ⟨fun y => sX12_here hR (by omega) ⟨fun q => absurd y q, fun _ => ?_⟩, fun y => sX12_here hR (by omega) ⟨fun y2 => ?_, fun y2 => sX12_here hR (by omega) ⟨fun _ => ?_, fun q => absurd q y⟩⟩⟩⟩) (fun z => ⟨fun _ => ?_, fun q => absurd rfl q⟩))
    · rw [if_pos ⟨z, y⟩] at hQ
      subst z
      have hlt := ch_lt (by decide) y
      have h2 := hg (p + 1) none hlt wokn
      rw [mp_inc]
      exact hc (p + 1) none (e + 11) _ hlt wokn (by omega) (ih _ _ _ (e + 12) Q h2.2.1 (by omega) h2.2.2 (by omega) hQ)
    · rw [if_neg (fun q => y q.2), if_neg (fun q => y2 q.2)] at hQ
      exact hQ
    · rw [if_neg (fun q => y q.2), if_pos ⟨z, y2⟩] at hQ
      subst z
      have hlt := ch_lt (by decide) y2
      have h2 := hg (p + 1) none hlt wokn
      rw [mp_inc]
      exact hc (p + 1) none (e + 11) _ hlt wokn (by omega) (ih _ _ _ (e + 12) Q h2.2.1 (by omega) h2.2.2 (by omega) hQ)
    · rw [if_neg (fun q => z q.1), if_neg (fun q => z q.1)] at hQ
      exact hQ
theorem m_sm {x : Int32} {B : Nat} {T : TT} (hl : l ≤ 80) (hR : Rd J b l r) (h90 : 100 ≤ B) (hg : gT l T) (hc : cT G L r J l kX12_product x B T) : cT G L r J l kX12_sum x (B + 1) (smR (mch J b l) T) := by
  intro p w d Q hp hw hd hQ
  obtain ⟨e, rfl⟩ : ∃ e, d = e + 12 := ⟨d - 12, by omega⟩
  have h2 := hg p w hp hw
  exact v_X12_sum _ _ _ _ (hc p w (e + 11) _ hp hw (by omega) (m_smL hl hR h90 hg hc 90 _ _ _ (e + 12) Q h2.2.1 (by omega) h2.2.2 (by omega) hQ))
theorem m_hd {x : Int32} {B : Nat} {S : TT} (hl : l ≤ 80) (hR : Rd J b l r) (h90 : 100 ≤ B) (hg : gT l S) (hc : cT G L r J l kX12_sum x B S) : cT G L r J l kX12_held x (B + 1) (hdR (mch J b l) S) := by
  intro p w d Q hp hw hd hQ
  obtain ⟨e, rfl⟩ : ∃ e, d = e + 12 := ⟨d - 12, by omega⟩
  have h2 := hg p w hp hw
  unfold hdR at hQ
  refine v_X12_held _ _ _ _ (hc p w (e + 11) _ hp hw (by omega) ?_)
  generalize hs : S p w = R at *
  obtain ⟨v, p1, w1⟩ := R
  dsimp only at *
  refine sX12_passes hR (by omega) h2.2.2 (fun z y => ⟨fun q => absurd q (by decide), fun _ => ?_⟩) (fun z => ⟨fun _ => sX12_passes hR (by omega) h2.2.2 (fun z2 y => ⟨fun q => absurd q (by decide), fun _ => ?_⟩) (fun z2 => ⟨fun _ => sX12_passes hR (by omega) h2.2.2 (fun z3 y => ⟨fun q => absurd q (by decide), fun _ => ?_⟩) (fun z3 => ⟨fun _ => ?_, fun q => absurd rfl q⟩), fun q => absurd rfl q⟩), fun q => absurd rfl q⟩)
  · rw [if_pos ⟨z, y⟩] at hQ
    subst z
    have hlt := ch_lt (by decide) y
    have h3 := hg (p1 + 1) none hlt wokn
    refine hc (p1 + 1) none (e + 11) _ hlt wokn (by omega) ⟨fun q => ?_, fun q => ?_⟩
    · rw [if_pos q] at hQ; exact hQ
    · rw [if_neg q] at hQ; exact hQ
  · rw [if_neg z, if_pos ⟨z2, y⟩] at hQ
    subst z2
    have hlt := ch_lt (by decide) y
    have h3 := hg (p1 + 1) none hlt wokn
    refine hc (p1 + 1) none (e + 11) _ hlt wokn (by omega) ⟨fun q => ?_, fun q => ?_⟩
    · rw [if_pos q] at hQ; exact hQ
    · rw [if_neg q] at hQ; exact hQ
  · rw [if_neg z, if_neg z2, if_pos ⟨z3, y⟩] at hQ
    subst z3
    have hlt := ch_lt (by decide) y
    have h3 := hg (p1 + 1) none hlt wokn
    refine hc (p1 + 1) none (e + 11) _ hlt wokn (by omega) ⟨fun q => ?_, fun q => ?_⟩
    · rw [if_neg q] at hQ; exact hQ
    · rw [if_pos q] at hQ; exact hQ
  · rw [if_neg z, if_neg z2, if_neg z3] at hQ
    exact hQ
theorem m_lv (hl : l ≤ 80) (hR : Rd J b l r) (hB : ∀ i, byok (J b i)) : ∀ n, n ≤ 4 → cT G L r J l kX12_held (nI (4 - n)) (103 + 3 * n) (lvR (mch J b l) (gvl J) n)
  | 0, _ => by
    have h1 : cT G L r J l kX12_thing (nI 4) 100 (thR (mch J b l) (gvl J) none 90) := fun p w d Q hp hw hd hQ => m_th hl hR hB (Nat.le_refl _) (fun T h => by cases h) (fun _ => by decide) 90 p w d Q hp (by omega) hw hd hQ
    have g1 : gT l (thR (mch J b l) (gvl J) none 90) := g_th hl (fun T h => by cases h) 90
    exact m_hd hl hR (by omega) (g_sm (g_pr g1)) (m_sm hl hR (by omega) (g_pr g1) (m_pr hl hR (by omega) g1 h1))
  | n + 1, hn => by
    have ih := m_lv hl hR hB n (by omega)
    have h1 : cT G L r J l kX12_thing (nI (4 - (n + 1))) (103 + 3 * n) (thR (mch J b l) (gvl J) (some (lvR (mch J b l) (gvl J) n)) 90) := fun p w d Q hp hw hd hQ => m_th hl hR hB (by omega) (fun T h => by
      cases h
      refine ⟨fun z => ?_, g_lv hl n, ?_⟩
      · have := (n_le (a := 4) (b := 4 - (n + 1)) rfl rfl (by omega) (by omega)).mp z
        omega
      · rw [nI_1, show 4 - (n + 1) + 1 = 4 - n by omega]
        exact ih) (fun h => by cases h) 90 p w d Q hp (by omega) hw hd hQ
    have g1 : gT l (thR (mch J b l) (gvl J) (some (lvR (mch J b l) (gvl J) n)) 90) := g_th hl (fun T h => by cases h; exact g_lv hl n) 90
    rw [show 103 + 3 * (n + 1) = 103 + 3 * n + 1 + 1 + 1 by omega]
    exact m_hd (B := 103 + 3 * n + 1 + 1) hl hR (by omega) (g_sm (g_pr g1)) (m_sm (B := 103 + 3 * n + 1) hl hR (by omega) (g_pr g1) (m_pr (B := 103 + 3 * n) hl hR (by omega) g1 h1))
end
