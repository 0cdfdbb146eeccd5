/-! THE MODEL: letters, digits, numbers -/
def byok (x : Int32) : Prop := x.toInt8.toInt32 = x
theorem by_dec : ∀ k : Fin 256, ((Int8.ofNat k.val).toInt32 &&& 255 < 128 → (Int8.ofNat k.val).toInt32 &&& 255 = (Int8.ofNat k.val).toInt32) ∧ ¬ ((Int8.ofNat k.val).toInt32 &&& 255 < 0) ∧ (Int8.ofNat k.val).toInt32 &&& 255 ≤ 255 := by decide +kernel
theorem by_ex (x : Int32) : ∃ k : Fin 256, x.toInt8 = Int8.ofNat k.val := by
  refine ⟨⟨x.toInt8.toBitVec.toNat, x.toInt8.toBitVec.isLt⟩, ?_⟩
  apply Int8.toBitVec.inj
  simp [Int8.toBitVec_ofNat']
theorem by_lo {x : Int32} (h : byok x) (h1 : x &&& 255 < 128) : x &&& 255 = x := by
  obtain ⟨k, hk⟩ := by_ex x
  unfold byok at h
  rw [hk] at h
  rw [← h] at h1 ⊢
  exact (by_dec k).1 h1
theorem by_rng {x : Int32} (h : byok x) : ¬ (x &&& 255 < 0) ∧ x &&& 255 ≤ 255 := by
  obtain ⟨k, hk⟩ := by_ex x
  unfold byok at h
  rw [hk] at h
  rw [← h]
  exact (by_dec k).2
section
variable {G : rt_G} {d : Nat} {Q : rt_Q} {L : rt_L} {r n : Nat} {J : rt_I} {b l p : Nat} {w : Option Nat}
def oOK (c : Int32) (a k : Nat) (but : Int32) : Prop := ¬ c < nI a ∧ ¬ nI a + nI k - 1 < c ∧ ¬ c - nI a = but
theorem sX12_oneOf {a k : Nat} {but : Int32} (hR : Rd J b l r) (hB : ∀ i, byok (J b i)) (ha : a + k ≤ 128) (ha1 : 0 < a) (hp : p < 1000) (hw : wok w)
    (h1 : w = none → oOK (mch J b l p) a k but → Q (mch J b l p - nI a) (mp J (p + 1) w) L r) (h0 : ¬ (w = none ∧ oOK (mch J b l p) a k but) → Q 0 (mp J p (w.or (some p))) L r) : rt_Call G (d + 2) kX12_oneOf [.ref 108, .int (nI a), .int (nI k), .int but] (mp J p w) L r Q := by
  have hin : ¬ mch J b l p < nI a → ¬ nI a + nI k - 1 < mch J b l p → mch J b l p = J b p ∧ p < l := by
    intro q1 q2
    unfold mch ch at q1 q2 ⊢
    by_cases hl : p < l
    · rw [if_pos hl] at q1 q2 ⊢
      dsimp only at q1 q2 ⊢
      refine ⟨by_lo (hB p) ?_, hl⟩
      obtain ⟨m, hm, e⟩ := nI_of (fun z => (by_rng (hB p)).1 z)
      rw [e] at q1 q2 ⊢
      rw [nI_add] at q2
      have h3 := mt (nI_ltI hm (by omega)).mpr q1
      cases hk : a + k with
      | zero => omega
      | succ z =>
        rw [hk, nI_pred] at q2
        have h4 := mt (nI_ltI (by omega) hm).mpr q2
        exact (n_lt (a := m) (b := 128) rfl rfl hm (by omega)).mpr (by omega)
    · rw [if_neg hl] at q1
      exact absurd (n_1lt (by omega)) q1
  have hbody : w = none → ((¬ mch J b l p < nI a ∧ ¬ nI a + nI k - 1 < mch J b l p) → ¬ mch J b l p - nI a = but → (vp_in ((nI p + 1) - 1) l ∧ Q (J b (((nI p + 1) - 1).toNatClampNeg) - nI a) (mp J (p + 1) w) L r)) := by
    intro hwn q1 q2
    obtain ⟨e1, e2⟩ := hin q1.1 q1.2
    have e3 : nI p + 1 - 1 = nI p := by rw [nI_1, nI_pred]
    rw [e3, nI_clamp (by omega), ← e1]
    exact ⟨vp_nI rfl e2 (by obtain ⟨-, hb, -⟩ := hR; omega), h1 hwn ⟨q1.1, q1.2, q2⟩⟩
  have hinc : rt_u (mp J p w) 108 18 ((mp J p w) 108 18 + 1) = mp J (p + 1) w := by rw [show (mp J p w) 108 18 = nI p from rfl, nI_1, mp_18]
  have hwn : ¬ w = none → mp J p (w.or (some p)) = mp J p w := by
    intro q
    cases w with
    | none => exact absurd rfl q
    | some x => rfl
  have hr := hR.1
  subst hr
  have hb2 := hR.2.1
  rcases hb2 with ⟨rfl, hl⟩ | ⟨rfl, hl⟩
  · refine v_X12_oneOf_t _ _ _ _ _ (sX12_fine hw (fun z => ⟨rfl, fun _ => sX12_here hR hp ⟨rfl, sX12_in (fun q => ⟨rfl, fun y => absurd y (by decide), fun _ => sX12_here hR hp ⟨rfl, fun y => ?_, fun y => sX12_fault hw ⟨rfl, h0 (fun q2 => q2.2.2.2 y)⟩⟩⟩) (fun q => ⟨rfl, fun _ => sX12_fault hw ⟨rfl, h0 (fun q2 => q ⟨q2.2.1, q2.2.2.1⟩)⟩, fun y => absurd rfl y⟩)⟩, fun y => absurd y (by decide)⟩) (fun z => ⟨rfl, fun y => absurd rfl y, fun _ => ?_⟩))
    · obtain ⟨a1, a2⟩ := hbody z q y
      rw [hinc]
      exact ⟨fun x => a1 (x.imp id (fun x => Nat.le_trans hl x)), a2⟩
    · have := h0 (fun q => z q.1)
      rw [hwn z] at this
      exact this
  · refine v_X12_oneOf_r _ _ _ _ _ (sX12_fine hw (fun z => ⟨rfl, fun _ => sX12_here hR hp ⟨rfl, sX12_in (fun q => ⟨rfl, fun y => absurd y (by decide), fun _ => sX12_here hR hp ⟨rfl, fun y => ?_, fun y => sX12_fault hw ⟨rfl, h0 (fun q2 => q2.2.2.2 y)⟩⟩⟩) (fun q => ⟨rfl, fun _ => sX12_fault hw ⟨rfl, h0 (fun q2 => q ⟨q2.2.1, q2.2.2.1⟩)⟩, fun y => absurd rfl y⟩)⟩, fun y => absurd y (by decide)⟩) (fun z => ⟨rfl, fun y => absurd rfl y, fun _ => ?_⟩))
    · obtain ⟨a1, a2⟩ := hbody z q y
      rw [hinc]
      exact ⟨fun x => a1 (x.imp id (fun x => Nat.le_trans hl x)), a2⟩
    · have := h0 (fun q => z q.1)
      rw [hwn z] at this
      exact this
/-- a digit from low on -/
def dgl (c : Int32) (low : Nat) : Bool := decide (¬ c < nI (48 + low)) && decide (c ≤ 57)
theorem dgl_0 (c : Int32) : dgl c 0 = dg c := by
  unfold dgl dg
  congr 1
  exact decide_eq_decide.mpr Int32.not_lt
theorem sX12_digit {low : Nat} (hlow : low ≤ 1) (hR : Rd J b l r) (hB : ∀ i, byok (J b i)) (hp : p < 1000) (hw : wok w)
    (h1 : w = none → dgl (mch J b l p) low = true → Q (mch J b l p - 48) (mp J (p + 1) w) L r) (h0 : ¬ (w = none ∧ dgl (mch J b l p) low = true) → Q (nI low) (mp J p (w.or (some p))) L r) : rt_Call G (d + 3) kX12_digit [.ref 108, .int (nI low)] (mp J p w) L r Q := by
  refine v_X12_digit _ _ _ _ ?_
  have e1 : (((48 : Int32) + nI low).toUInt32 % 65536).toInt32 = nI (48 + low) := by
    have : low = 0 ∨ low = 1 := by omega
    rcases this with rfl | rfl <;> decide
  have e2 : (10 : Int32) - nI low = nI (10 - low) := by
    have : low = 0 ∨ low = 1 := by omega
    rcases this with rfl | rfl <;> decide
  have e3 : nI (48 + low) + nI (10 - low) - 1 = 57 := by
    have : low = 0 ∨ low = 1 := by omega
    rcases this with rfl | rfl <;> decide
  have e4 : ∀ c : Int32, c - nI (48 + low) + nI low = c - 48 := by
    intro c
    have : low = 0 ∨ low = 1 := by omega
    rcases this with rfl | rfl
    · show c - 48 + 0 = c - 48
      rw [Int32.add_zero]
    · show c - 49 + 1 = c - 48
      rw [Int32.sub_eq_add_neg c 49, Int32.sub_eq_add_neg c 48, Int32.add_assoc, show (-49 : Int32) + 1 = -48 by decide]
  have e5 : ∀ c : Int32, oOK c (48 + low) (10 - low) (-1) ↔ dgl c low = true := by
    intro c
    unfold oOK dgl
    rw [e3]
    simp only [Bool.and_eq_true, decide_eq_true_eq, Int32.not_lt]
    constructor
    · rintro ⟨q1, q2, -⟩
      exact ⟨q1, q2⟩
    · rintro ⟨q1, q2⟩
      refine ⟨q1, q2, fun q => ?_⟩
      have h48 : (0 : Int32) ≤ nI (48 + low) := nI_pos' (by omega)
      obtain ⟨m, hm, rfl⟩ := nI_of (x := c) (Int32.not_lt.mpr (Int32.le_trans h48 q1))
      have h3 := (nI_leI (by omega) hm).mp q1
      rw [pk_sub h3] at q
      exact n_ne1 (by omega) q
  rw [e1, e2]
  refine sX12_oneOf hR hB (by omega) (by omega) hp hw (fun z q => ?_) (fun z => ?_)
  · rw [e4]
    exact h1 z ((e5 _).mp q)
  · show Q (0 + nI low) _ _ _
    rw [Int32.zero_add]
    exact h0 (fun q => z ⟨q.1, (e5 _).mpr q.2⟩)
end
