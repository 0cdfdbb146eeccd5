/-! CARTS TO COME: how a cart goes on by itself; arrives, best -/
def trv (th : Nat → Bool) (pat : Int32) (free : Bool) : Nat → Nat → Nat → Int32 → Int32 → Bool × Int32 × Int32
  | 0, _, _, _, ms => (false, -1, ms)
  | g + 1, k, l, c, ms => if th k = true then (if 1 < l then trv th pat free g (k + 1) (l - 1) 0 ms else (true, nI k, ms))
    else if free = true ∧ ¬ c + 1 < pat then (false, nI k, ms + 1) else trv th pat free g (k + 1) l (c + 1) (ms + 1)
theorem trv_ex (th : Nat → Bool) (pat : Int32) (free : Bool) : ∀ g k l c ms, (trv th pat free g k l c ms).1 = true → ∃ j, k ≤ j ∧ j < k + g ∧ (trv th pat free g k l c ms).2.1 = nI j
  | 0, k, l, c, ms, h => by cases h
  | g + 1, k, l, c, ms, h => by
    unfold trv at h ⊢
    split
    · rename_i z
      rw [if_pos z] at h
      split
      · rename_i z2
        rw [if_pos z2] at h
        obtain ⟨j, h1, h2, h3⟩ := trv_ex th pat free g (k + 1) _ _ _ h
        exact ⟨j, by omega, by omega, h3⟩
      · exact ⟨k, by omega, by omega, rfl⟩
    · rename_i z
      rw [if_neg z] at h
      split
      · rename_i z2
        rw [if_pos z2] at h
        cases h
      · rename_i z2
        rw [if_neg z2] at h
        obtain ⟨j, h1, h2, h3⟩ := trv_ex th pat free g (k + 1) _ _ _ h
        exact ⟨j, by omega, by omega, h3⟩
def trq (s : SV) (w : Nat) (start : Int32) (free : Bool) (l : Nat) (c : Int32) : Bool × Int32 × Int32 := trv (fun k => s.th w (start + nI k - 1)) s.pat free 120 1 l c 0
theorem trq_ex {s : SV} {w l : Nat} {start c : Int32} {free : Bool} (h : (trq s w start free l c).1 = true) : ∃ j, 1 ≤ j ∧ j ≤ 120 ∧ (trq s w start free l c).2.1 = nI j := by
  obtain ⟨j, h1, h2, h3⟩ := trv_ex _ _ _ _ _ _ _ _ h
  exact ⟨j, h1, by omega, h3⟩
theorem left_s {l : Nat} (h : 1 ≤ l) : nI l + (-1) = nI (l - 1) := by
  obtain ⟨j, rfl⟩ : ∃ j, l = j + 1 := ⟨l - 1, by omega⟩
  exact pk_m1 j
theorem b2i_t {b : Bool} : ¬ b2i b = 0 ↔ b = true := by cases b <;> decide
theorem free_iff {x : Int32} : (decide (x = 0) = true) ↔ x = 0 := by simp
section
variable {G : rt_G} {d : Nat} {Q : rt_Q} {I : rt_I} {L : rt_L} {r B : Nat} {s : SV} {m : MO} {us : List MO} {kp : Nat → Option MO} {mk : MKT} {row : List Int32} {tx : TXT}
def TF (M I : rt_I) : Prop := Fr M I [20] ∧ ∀ j, j ≠ 7 → j ≠ 8 → M 20 j = I 20 j
theorem TF.refl (I : rt_I) : TF I I := ⟨Fr.refl _ _, fun _ _ _ => rfl⟩
theorem TF.u {M I : rt_I} (h : TF M I) {j : Nat} {v : Int32} (hj : j = 7 ∨ j = 8) : TF (rt_u M 20 j v) I := ⟨h.1.u (by decide), fun k a b => (rt_u1 (by omega)).trans (h.2 k a b)⟩
theorem TF.S {M I : rt_I} (h : TF M I) (hS : XZ s I) : XZ s M := hS.fr ⟨by rw [h.1 12 (by decide)], by rw [h.1 12 (by decide)]⟩ (by rw [h.1 16 (by decide)]) (by rw [h.1 3 (by decide)]) (h.1 4 (by decide)) (h.1 13 (by decide)) (h.1 14 (by decide)) (h.1 15 (by decide)) (by rw [h.1 6 (by decide)]) (h.1 7 (by decide)) (h.2 4 (by decide) (by decide))
theorem sX9_travels {w l : Nat} {x xl c ch st : Int32} (hS : XZ s I) (hk : sok s) (hx : x = nI w) (hw : w < s.nr) (hl : xl = nI l) (hl1 : 1 ≤ l) (hl2 : l ≤ 20)
    (hQ : ∀ M, TF M I → M 20 7 = (trq s w st (decide (ch = 0)) l c).2.1 → M 20 8 = (trq s w st (decide (ch = 0)) l c).2.2 → Q (b2i (trq s w st (decide (ch = 0)) l c).1) M L r) : rt_Call G (d + 3) kX9_travels [.ref 20, .int x, .int xl, .int c, .int ch, .int st] I L r Q := by
  refine v_X9_travels _ _ _ _ _ _ _ _ ?_
  subst hl
  unfold trq at hQ
  have key : ∀ g k l c ms M, g + k = 121 → 1 ≤ l → l ≤ 20 → TF M I → M 20 8 = ms →
      (∀ M, TF M I → M 20 7 = (trv (fun k => s.th w (st + nI k - 1)) s.pat (decide (ch = 0)) g k l c ms).2.1 → M 20 8 = (trv (fun k => s.th w (st + nI k - 1)) s.pat (decide (ch = 0)) g k l c ms).2.2 → Q (b2i (trv (fun k => s.th w (st + nI k - 1)) s.pat (decide (ch = 0)) g k l c ms).1) M L r) →
      rt_AW G (d + 3) kX9_travels Q 14 [some (.ref 20), some (.int x), none, none, some (.int ch), some (.int st), some (.int (nI l)), some (.int c), some (.int (nI k))] [] M L r := by
    intro g
    induction g with
    | zero =>
      intro k l c ms M hg h1 h2 hT hms hQ
      obtain rfl : k = 121 := by omega
      exact v_X9_travels_14 _ _ _ _ _ _ _ _ _ ⟨fun _ => hQ _ (hT.u (Or.inl rfl)) rt_u_at (by rw [rt_u1 (by decide)]; exact hms), fun z => absurd (by decide) z⟩
    | succ g ih =>
      intro k l c ms M hg h1 h2 hT hms hQ
      have hT7 := hT.u (j := 7) (v := nI k) (Or.inl rfl)
      have hS7 := hT7.S hS
      have e7 : rt_u M 20 7 (nI k) 20 7 = nI k := rt_u_at
      have e8 : rt_u M 20 7 (nI k) 20 8 = ms := (rt_u1 (by decide)).trans hms
      have e4 : rt_u M 20 7 (nI k) 20 4 = s.pat := hS7.2.2.2.2.2.2.2.2.2
      refine v_X9_travels_14 _ _ _ _ _ _ _ _ _ ⟨fun z => absurd ((n_lt (a := 120) (b := k) rfl rfl (by omega) (by omega)).mp z) (by omega), fun _ => ?_⟩
      generalize rt_u M 20 7 (nI k) = J at *
      unfold trv at hQ
      refine wX9_isThere hS7 hk hx hw (fun t => ⟨fun q => absurd q (by decide), fun _ => ⟨fun z => ?_, fun z => ?_⟩⟩) (fun t => ⟨fun _ => ⟨fun z => ?_, fun z => ⟨fun z2 => ?_, fun z2 => ?_⟩⟩, fun q => absurd rfl q⟩)
      · rw [left_s h1] at z ⊢
        have hl : 1 < l := by
          have := (n_lt (a := 0) (b := l - 1) rfl rfl (by omega) (by omega)).mp z
          omega
        rw [if_pos t, if_pos hl] at hQ
        rw [nI_1]
        exact ih (k + 1) (l - 1) 0 ms J (by omega) (by omega) (by omega) hT7 e8 hQ
      · rw [left_s h1] at z
        have hl : ¬ 1 < l := fun q => z ((n_lt (a := 0) (b := l - 1) rfl rfl (by omega) (by omega)).mpr (by omega))
        rw [if_pos t, if_neg hl] at hQ
        exact hQ J hT7 e7 e8
      · rw [if_neg (by rw [t]; decide), if_neg (fun q => z (free_iff.mp q.1))] at hQ
        rw [nI_1, e8]
        exact ih (k + 1) l (c + 1) (ms + 1) _ (by omega) h1 h2 (hT7.u (Or.inr rfl)) rt_u_at hQ
      · rw [e4] at z2
        rw [if_neg (by rw [t]; decide), if_neg (fun q => q.2 z2)] at hQ
        rw [nI_1, e8]
        exact ih (k + 1) l (c + 1) (ms + 1) _ (by omega) h1 h2 (hT7.u (Or.inr rfl)) rt_u_at hQ
      · rw [e4] at z2
        rw [if_neg (by rw [t]; decide), if_pos ⟨free_iff.mpr z, z2⟩] at hQ
        rw [e8]
        exact hQ _ (hT7.u (Or.inr rfl)) (by rw [rt_u1 (by decide)]; exact e7) rt_u_at
  exact key 120 1 l c 0 _ (by omega) hl1 hl2 ((TF.refl I).u (Or.inr rfl)) rt_u_at hQ
def RF (M I : rt_I) : Prop := Fr M I [108] ∧ F8 M I [44, 45, 46]
theorem RF.refl (I : rt_I) : RF I I := ⟨Fr.refl _ _, F8.refl _ _⟩
theorem RF.u {M I : rt_I} (h : RF M I) {j : Nat} {v : Int32} (hj : 44 ≤ j ∧ j ≤ 46) : RF (rt_u M 108 j v) I := ⟨h.1.u (by decide), h.2.u (fun _ => by
  simp only [List.mem_cons, List.not_mem_nil, or_false]
  omega)⟩
theorem RF.S {M I : rt_I} (h : RF M I) (hS : MZ s I) : MZ s M := hS.fq h.1 (fun j hj => h.2 j (by simp only [List.mem_cons, List.not_mem_nil, or_false] at hj ⊢; omega)) (by decide)
theorem rm_time (a t k : Int32) : a + ((t + k) - 1) = (a + t) + k - 1 := by
  rw [Int32.sub_eq_add_neg, Int32.sub_eq_add_neg, ← Int32.add_assoc, ← Int32.add_assoc]
theorem sX12_rides {w l : Nat} {x xl c ch t : Int32} {free : Bool} (hS : MZ s I) (hk : sok s) (hM : MMo s m (I 109)) (hx : x = nI w) (hw : w < s.nr) (hl : xl = nI l) (hl1 : 1 ≤ l) (hl2 : l ≤ 20) (hf : free = true ↔ ch = 0)
    (hQ : ∀ M, RF M I → ((trq s w (m 64 + t) free l c).1 = true → M 108 44 = (trq s w (m 64 + t) free l c).2.1) → ((trq s w (m 64 + t) free l c).1 = false → M 108 46 = (trq s w (m 64 + t) free l c).2.1) → M 108 45 = (trq s w (m 64 + t) free l c).2.2 → Q (b2i (trq s w (m 64 + t) free l c).1) M L r) : rt_Call G (d + 4) kX12_rides [.ref 108, .int x, .int t, .int xl, .int c, .int ch] I L r Q := by
  refine v_X12_rides _ _ _ _ _ _ _ _ ?_
  subst hl
  unfold trq at hQ
  have key : ∀ g k l c ms M, g + k = 121 → 1 ≤ l → l ≤ 20 → RF M I → M 108 45 = ms → M 108 44 = nI k → M 108 46 = -1 →
      (∀ M, RF M I → ((trv (fun k => s.th w (m 64 + t + nI k - 1)) s.pat free g k l c ms).1 = true → M 108 44 = (trv (fun k => s.th w (m 64 + t + nI k - 1)) s.pat free g k l c ms).2.1) → ((trv (fun k => s.th w (m 64 + t + nI k - 1)) s.pat free g k l c ms).1 = false → M 108 46 = (trv (fun k => s.th w (m 64 + t + nI k - 1)) s.pat free g k l c ms).2.1) → M 108 45 = (trv (fun k => s.th w (m 64 + t + nI k - 1)) s.pat free g k l c ms).2.2 → Q (b2i (trv (fun k => s.th w (m 64 + t + nI k - 1)) s.pat free g k l c ms).1) M L r) →
      rt_AW G (d + 4) kX12_rides Q 22 [some (.ref 108), some (.int x), some (.int t), none, none, some (.int ch), some (.int (nI l)), some (.int c)] [] M L r := by
    intro g
    induction g with
    | zero =>
      intro k l c ms M hg h1 h2 hR h45 h44 h46 hQ
      obtain rfl : k = 121 := by omega
      refine v_X12_rides_22 _ _ _ _ _ _ _ _ ⟨fun _ => hQ M hR (fun q => by cases q) (fun _ => h46) h45, fun z => absurd (by rw [h44]; decide) z⟩
    | succ g ih =>
      intro k l c ms M hg h1 h2 hR h45 h44 h46 hQ
      have hS7 := hR.S hS
      have hM7 : MMo s m (M 109) := by rw [hR.1 109 (by decide)]; exact hM
      have e4 : M 108 9 = s.pat := hS7.2.2.2.2.2.2.2.2.2.1
      refine v_X12_rides_22 _ _ _ _ _ _ _ _ ⟨fun z => absurd ((n_lt (a := 120) (b := k) rfl h44 (by omega) (by omega)).mp z) (by omega), fun _ => ?_⟩
      rw [h44]
      unfold trv at hQ
      refine wX12_comesIn hS7 hk hM7 hx hw (fun q => ⟨fun y => absurd y (by decide), fun _ => ⟨fun z => ?_, fun z => ?_⟩⟩) (fun q => ⟨fun _ => ⟨fun z => ?_, fun z => ⟨fun z2 => ?_, fun z2 => ?_⟩⟩, fun y => absurd rfl y⟩)
      all_goals rw [rm_time] at q
      · rw [left_s h1] at z ⊢
        have hl : 1 < l := by
          rcases Nat.lt_or_ge 1 l with a | a
          · exact a
          · have : l = 1 := by omega
            subst this
            exact absurd rfl z
        rw [if_pos q, if_pos hl] at hQ
        rw [h44, nI_1]
        exact ih (k + 1) (l - 1) 0 ms _ (by omega) (by omega) (by omega) (hR.u (by omega)) (by rw [rt_u1 (by decide)]; exact h45) rt_u_at (by rw [rt_u1 (by decide)]; exact h46) hQ
      · rw [left_s h1] at z
        have hl : ¬ 1 < l := fun a => by
          have := (n_eq (a := l - 1) (b := 0) rfl rfl (by omega) (by omega)).mp z
          omega
        rw [if_pos q, if_neg hl] at hQ
        exact hQ M hR (fun _ => h44) (fun a => by cases a) h45
      · rw [if_neg (by rw [q]; decide), if_neg (fun y => z (hf.mp y.1))] at hQ
        rw [h45, h44, nI_1]
        exact ih (k + 1) l (c + 1) (ms + 1) _ (by omega) h1 h2 ((hR.u (by omega)).u (by omega)) (by rw [rt_u1 (by decide), rt_u_at]) rt_u_at (by rw [rt_u1 (by decide), rt_u1 (by decide)]; exact h46) hQ
      · rw [e4] at z2
        rw [if_neg (by rw [q]; decide), if_pos ⟨hf.mpr z, Int32.not_lt.mpr z2⟩] at hQ
        rw [h45, h44]
        exact hQ _ ((hR.u (by omega)).u (by omega)) (fun a => by cases a) (fun _ => rt_u_at) (by rw [rt_u1 (by decide), rt_u_at])
      · rw [e4] at z2
        rw [if_neg (by rw [q]; decide), if_neg (fun y => y.2 (Int32.not_le.mp z2))] at hQ
        rw [h45, h44, nI_1]
        exact ih (k + 1) l (c + 1) (ms + 1) _ (by omega) h1 h2 ((hR.u (by omega)).u (by omega)) (by rw [rt_u1 (by decide), rt_u_at]) rt_u_at (by rw [rt_u1 (by decide), rt_u1 (by decide)]; exact h46) hQ
  refine key 120 1 l c 0 _ (by omega) hl1 hl2 ((((RF.refl I).u (by omega)).u (by omega)).u (by omega)) ?_ rt_u_at ?_ hQ
  · rw [rt_u1 (by decide), rt_u1 (by decide), rt_u_at]
  · rw [rt_u1 (by decide), rt_u_at]
/-- how a cart goes on from now -/
def fsee (s : SV) (m : MO) (c : Nat) : Bool × Int32 × Int32 := if m (c * 8) = -1 ∧ m (c * 8 + 7) = 0 then trq s (cc (m (c * 8 + 1))) (m 64) (decide (m (c * 8 + 5) = 0)) (cc (m (c * 8 + 3))) (m (c * 8 + 6)) else (false, 0, 0)
theorem fsee_ex {c : Nat} (h : (fsee s m c).1 = true) : m (c * 8) = -1 ∧ m (c * 8 + 7) = 0 ∧ ∃ j, 1 ≤ j ∧ j ≤ 120 ∧ (fsee s m c).2.1 = nI j := by
  unfold fsee at h ⊢
  split at h
  · rename_i z
    rw [if_pos z]
    exact ⟨z.1, z.2, trq_ex h⟩
  · cases h
theorem wX9_foresee {c : Nat} {x : Int32} (hS : XZ s I) (hk : sok s) (hM : XMo s m I 16) (hm : mok s B m) (hx : x = nI c) (hc : c < s.nc)
    (hQ : ∀ M, TF M I → M 20 7 = (fsee s m c).2.1 → ((fsee s m c).1 = true → M 20 8 = (fsee s m c).2.2) → Q (b2i (fsee s m c).1) M L r) : rt_Call G (d + 4) kX9_foresee [.ref 20, .int x] I L r Q := by
  have h5 := hk.2.2.1
  have h12 := hk.2.1
  have hT0 : TF I I := TF.refl I
  obtain ⟨t, ht, e64, hco⟩ := hm.1
  refine v_X9_foresee _ _ _ _ (sX4_of (j := 1) hx rfl (by omega) ?_)
  rw [xm_c hk hM hc (by omega)]
  obtain ⟨q5, hq⟩ := hco c hc
  rcases hq with ⟨p, hp, e0, e1, e2, e3, e6, e7⟩ | ⟨e0, ⟨w, hw, e1, e2⟩, ⟨l, l1, l20, e3⟩, ⟨k, hk6, e6⟩, e7⟩
  · have hz : fsee s m c = (false, 0, 0) := if_neg (fun a => n_ne1 (a := p) (by have := hk.1; omega) (e0.symm.trans a.1))
    rw [hz] at hQ
    refine sX2_hasRoad hS.2.1 (fun z => ?_) (fun z => ⟨fun _ => hQ _ (hT0.u (Or.inl rfl)) rt_u_at (fun a => by cases a), fun y => absurd rfl y⟩)
    rw [e1] at z
    exact absurd (by decide) z.1
  · rw [e1]
    refine sX2_hasRoad hS.2.1 (fun z => ⟨fun y => absurd y (by decide), fun _ => sX4_of (j := 7) hx rfl (by omega) ?_⟩) (fun z => absurd ((inr_iff (by omega)).mpr ⟨w, hw, rfl⟩) z)
    rw [xm_c hk hM hc (by omega)]
    refine ⟨fun y => sX4_of (j := 3) hx rfl (by omega) (sX4_of (j := 6) hx rfl (by omega) (sX4_of (j := 5) hx rfl (by omega) ?_)), fun y => ?_⟩
    · have hz : fsee s m c = trq s w (m 64) (decide (m (c * 8 + 5) = 0)) l (m (c * 8 + 6)) := by
        unfold fsee
        rw [if_pos ⟨e0, y⟩, e1, e3, cc_nI (by omega), cc_nI (by omega)]
      rw [hz] at hQ
      rw [xm_c hk hM hc (by omega), xm_c hk hM hc (by omega), xm_c hk hM hc (by omega), hM.1]
      refine sX9_travels hS hk rfl hw e3 l1 l20 (fun M hT g7 g8 => ⟨?_, hQ M hT g7 (fun _ => g8)⟩)
      cases (trq s w (m 64) (decide (m (c * 8 + 5) = 0)) l (m (c * 8 + 6))).1
      · exact Or.inl rfl
      · exact Or.inr rfl
    · have hz : fsee s m c = (false, 0, 0) := if_neg (fun a => y a.2)
      rw [hz] at hQ
      exact hQ _ (hT0.u (Or.inl rfl)) rt_u_at (fun a => by cases a)
theorem wX12_ridesOn {c : Nat} {x : Int32} (hS : MZ s I) (hk : sok s) (hM : MMo s m (I 109)) (hm : mok s B m) (hx : x = nI c) (hc : c < s.nc) (h0 : m (c * 8) = -1) (h7 : m (c * 8 + 7) = 0)
    (hQ : ∀ M, RF M I → ((fsee s m c).1 = true → M 108 44 = (fsee s m c).2.1) → ((fsee s m c).1 = false → M 108 46 = (fsee s m c).2.1) → M 108 45 = (fsee s m c).2.2 → Q (b2i (fsee s m c).1) M L r) : rt_Call G (d + 5) kX12_ridesOn [.ref 108, .int x] I L r Q := by
  have h5 := hk.2.2.1
  have h12 := hk.2.1
  subst hx
  obtain ⟨t, ht, e64, hco⟩ := hm.1
  obtain ⟨q5, hq⟩ := hco c hc
  rcases hq with ⟨p, hp, e0, -⟩ | ⟨e0, ⟨w, hw, e1, e2⟩, ⟨l, l1, l20, e3⟩, ⟨k, hk6, e6⟩, e7⟩
  · exact absurd (e0.symm.trans h0) (n_ne1 (by have := hk.1; omega))
  · have hz : fsee s m c = trq s w (m 64 + 0) (decide (m (c * 8 + 5) = 0)) l (m (c * 8 + 6)) := by
      unfold fsee
      rw [if_pos ⟨h0, h7⟩, e1, e3, cc_nI (by omega), cc_nI (by omega), Int32.add_zero]
    rw [hz] at hQ
    refine v_X12_ridesOn _ _ _ _ ?_
    simp (disch := omega) only [n8, na1, na3, na5, na6, vpT, clT, true_and]
    rw [mm_c hM hc (j := 1) (by omega), mm_c hM hc (j := 3) (by omega), mm_c hM hc (j := 5) (by omega), mm_c hM hc (j := 6) (by omega)]
    have fin : ∀ b : Bool, b2i b = 0 ∨ b2i b = 1 := fun b => by cases b; exact Or.inl rfl; exact Or.inr rfl
    refine ⟨fun z => ?_, fun z => ?_⟩
    · refine sX12_rides hS hk hM e1 hw e3 l1 l20 (free := decide (m (c * 8 + 5) = 0)) ?_ (fun M hR g1 g2 g3 => ⟨fin _, hQ M hR g1 g2 g3⟩)
      rw [free_iff]
      exact ⟨fun _ => rfl, fun _ => q5.1.elim id (fun y => absurd y z)⟩
    · refine sX12_rides hS hk hM e1 hw e3 l1 l20 (free := decide (m (c * 8 + 5) = 0)) ?_ (fun M hR g1 g2 g3 => ⟨fin _, hQ M hR g1 g2 g3⟩)
      rw [free_iff, z]
/-! arrives -/
def fArr (s : SV) (m : MO) (row : List Int32) (x : Int32) : Int32 × List Int32 :=
  if inb x s.nc = true then
    if m (cc x * 8) = -1 then (if (fsee s m (cc x)).1 = true then ((fsee s m (cc x)).2.1, [(fsee s m (cc x)).2.2]) else (-2, [(fsee s m (cc x)).2.1])) else (-1, row)
  else (-1, row)
theorem XI.tf {M : rt_I} (h : XI s m us kp mk row tx I) (hT : TF M I) : XI s m us kp mk row tx M :=
  h.q (hT.1.mono (by decide)) (hT.2 4 (by decide) (by decide)) (by rw [hT.1 38 (by decide)]) (h.2.2.2.2.2.1.fr (hT.1 42 (by decide)) (hT.1 43 (by decide)))
theorem MI.rf {M : rt_I} (h : MI B s m us kp mk row tx I) (hR : RF M I) : MI B s m us kp mk row tx M :=
  h.q (hR.1.mono (by decide)) (hR.2.mono (by decide)) ((hR.2 28 (by decide)).trans h.z28) (h.2.2.2.2.2.1.fr (hR.2 13 (by decide)) (hR.1 115 (by decide)))
theorem fX_arr {x : Int32} (h : XI s m us kp mk row tx I) (hk : sok s) (hm : mok s B m)
    (hQ : ∀ M, XI s m us kp mk (fArr s m row x).2 tx M → (∀ c, 108 ≤ c → M c = I c) → Q (fArr s m row x).1 M L r) : rt_Call G (d + 5) kX11_arrives [.ref 0, .int x] I L r Q := by
  have h5 := hk.2.2.1
  unfold fArr at hQ
  refine v_X11_arrives _ _ _ _ (sX2_hasCart h.1.2.2.1 (fun z => ⟨fun q => absurd q (by decide), fun _ => ?_⟩) (fun z => ⟨fun _ => ?_, fun q => absurd rfl q⟩))
  · rw [if_pos (inb_iff.mpr z)] at hQ
    obtain ⟨c, hc, rfl⟩ := (inr_iff (by omega)).mp z
    rw [cc_nI (by omega)] at hQ
    refine sX4_of (j := 1) rfl rfl (by omega) ?_
    rw [xm_c hk h.2.1 hc (by omega)]
    obtain ⟨t, ht, e64, hco⟩ := hm.1
    obtain ⟨q5, hq⟩ := hco c hc
    have hro : m (c * 8) = -1 ↔ ¬ m (c * 8 + 1) = -1 := by
      rcases hq with ⟨p, hp, e0, e1, -⟩ | ⟨e0, ⟨w, hw, e1, e2⟩, -⟩
      · exact ⟨fun a => absurd (e0.symm.trans a) (n_ne1 (by have := hk.1; omega)), fun a => absurd e1 a⟩
      · exact ⟨fun _ a => n_ne1 (by have := hk.2.1; omega) (e1.symm.trans a), fun _ => e0⟩
    refine ⟨fun z1 => wX9_foresee h.1 hk h.2.1 hm rfl hc (fun M hT g7 g8 => gX_clear (h.tf hT) (fun M1 h1 f1 => ⟨fun y => ?_, fun y => ?_⟩)), fun z1 => ?_⟩
    · rw [if_pos (hro.mpr z1), if_pos (b2i_t.mp y)] at hQ
      have e8 : M1 20 8 = (fsee s m c).2.2 := by rw [f1 20 (by decide)]; exact g8 (b2i_t.mp y)
      rw [e8]
      refine gX_add h1 (by simp) (fun M2 h2 f2 => ?_)
      rw [show M2 20 7 = (fsee s m c).2.1 by rw [f2 20 (by decide), f1 20 (by decide)]; exact g7]
      exact hQ M2 h2 (fun c hc => ((f2.trans f1).hi (by decide) c hc).trans (hT.1.hi (by decide) c hc))
    · have yf : ¬ (fsee s m c).1 = true := by rw [b2i_z.mp y]; decide
      rw [if_pos (hro.mpr z1), if_neg yf] at hQ
      have e7 : M1 20 7 = (fsee s m c).2.1 := by rw [f1 20 (by decide)]; exact g7
      rw [e7]
      refine gX_add h1 (by simp) (fun M2 h2 f2 => ?_)
      exact hQ M2 h2 (fun c hc => ((f2.trans f1).hi (by decide) c hc).trans (hT.1.hi (by decide) c hc))
    · rw [if_neg (fun a => (hro.mp a) z1)] at hQ
      exact hQ I h (fun _ _ => rfl)
  · rw [if_neg (mt inb_iff.mp z)] at hQ
    exact hQ I h (fun _ _ => rfl)
theorem fM_arr {x : Int32} (h : MI B s m us kp mk row tx I) (hk : sok s) (hm : mok s B m)
    (hQ : ∀ M r', MI B s m us kp mk (fArr s m row x).2 tx M → Lo M I → M 108 14 = 0 → Q (fArr s m row x).1 M L r') : rt_Call G (d + 6) kX12_arrives [.ref 108, .int x] I L r Q := by
  have h5 := hk.2.2.1
  have h0 := h.t0
  have hLJ : Lo (rt_u I 108 14 0) I := Lo.of u14F (by decide)
  unfold fArr at hQ
  refine v_X12_arrives _ _ _ _ (sX12_isCart h0.1.2.2.1 (by omega) (fun z => ⟨fun q => absurd q (by decide), fun _ => ?_⟩) (fun z => ⟨fun _ => ?_, fun q => absurd rfl q⟩))
  · rw [if_pos (inb_iff.mpr z)] at hQ
    obtain ⟨c, hc, rfl⟩ := (inr_iff (by omega)).mp z
    rw [cc_nI (by omega)] at hQ
    simp (disch := omega) only [n8, na7, vpT, clT, true_and]
    rw [mm_0 h0.2.1 hc, mm_c h0.2.1 hc (j := 7) (by omega)]
    obtain ⟨t, ht, e64, hco⟩ := hm.1
    obtain ⟨q5, hq⟩ := hco c hc
    refine ⟨fun z1 => ⟨fun z7 => ?_, fun z7 => ?_⟩, fun z1 => ?_⟩
    · have e7 : m (c * 8 + 7) = 0 := by
        rcases hq with ⟨p, hp, e0, -⟩ | ⟨e0, -, -, -, e7⟩
        · exact absurd (e0.symm.trans z1) (n_ne1 (by have := hk.1; omega))
        · exact e7.elim id (fun a => absurd a z7)
      rw [if_pos z1] at hQ
      refine wX12_ridesOn h0.1 hk h0.2.1 hm rfl hc z1 e7 (fun M hR g1 g2 g3 => ⟨fun y => ?_, fun y => ?_⟩)
      · have h1 := h0.rf hR
        have yf : (fsee s m c).1 = false := b2i_z.mp y
        rw [if_neg (by rw [yf]; decide)] at hQ
        refine v_X12_arrives_68 _ _ _ _ _ ⟨fun _ => ⟨fun _ => ?_, fun a => absurd rfl a⟩, fun a => absurd rfl a⟩
        rw [g2 yf]
        refine gM_tell h1.c13 (by simp) (fun M2 h2 l2 j2 => ⟨fun _ => hQ M2 _ h2 (l2.trans (c13L.trans ((Lo.of hR.1 (by decide)).trans hLJ))) ?_, fun a => absurd rfl a⟩)
        rw [j2 14 (by decide), rt_u1 (by decide), hR.2 14 (by decide), rt_u_at]
      · have h1 := h0.rf hR
        have yt : (fsee s m c).1 = true := b2i_t.mp y
        rw [if_pos yt] at hQ
        refine v_X12_arrives_68 _ _ _ _ _ ⟨fun _ => ⟨fun a => absurd a (by decide), fun _ => ?_⟩, fun a => absurd rfl a⟩
        rw [g3]
        refine gM_tell h1.c13 (by simp) (fun M2 h2 l2 j2 => ⟨fun a => absurd a (by decide), fun _ => ?_⟩)
        rw [j2 44 (by decide), rt_u1 (by decide), g1 yt]
        refine hQ M2 _ h2 (l2.trans (c13L.trans ((Lo.of hR.1 (by decide)).trans hLJ))) ?_
        rw [j2 14 (by decide), rt_u1 (by decide), hR.2 14 (by decide), rt_u_at]
    · have hz : fsee s m c = (false, 0, 0) := if_neg (fun a => by rw [z7] at a; exact absurd a.2 (by decide))
      rw [hz, if_pos z1, if_neg (by decide)] at hQ
      refine v_X12_arrives_68 _ _ _ _ _ ⟨fun a => absurd a (by decide), fun _ => ?_⟩
      refine gM_tell h0.c13 (by simp) (fun M2 h2 l2 j2 => ⟨fun _ => hQ M2 _ h2 (l2.trans (c13L.trans hLJ)) ?_, fun a => absurd rfl a⟩)
      rw [j2 14 (by decide), rt_u1 (by decide), rt_u_at]
    · rw [if_neg z1] at hQ
      exact hQ _ _ h0 hLJ rt_u_at
  · rw [if_neg (mt inb_iff.mp z)] at hQ
    exact hQ _ _ h0 hLJ rt_u_at
end
