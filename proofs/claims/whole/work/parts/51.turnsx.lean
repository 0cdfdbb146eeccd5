/-! A TURN, as numbers; the class's -/
def stp (m : Nat → Int32) (c : Nat) (p : Int32) : Nat → Int32 := upd (upd (upd (upd m (c * 8) p) (c * 8 + 1) (-1)) (c * 8 + 2) (-1)) (c * 8 + 3) 0
def gC (s : SV) (m : Nat → Int32) (c : Nat) : (Nat → Int32) × Bool × Bool :=
  if m (c * 8) = -1 ∧ m (c * 8 + 7) = 0 then
    if s.th (m (c * 8 + 1)).toNatClampNeg (m 64) = true then
      if m (c * 8 + 3) - 1 ≤ 0 then (stp (upd (upd m (c * 8 + 6) 0) (c * 8 + 3) (m (c * 8 + 3) - 1)) c (m (c * 8 + 2)), true, false)
      else (upd (upd m (c * 8 + 6) 0) (c * 8 + 3) (m (c * 8 + 3) - 1), false, false)
    else if m (c * 8 + 5) = 0 ∧ ¬ m (c * 8 + 6) + 1 < s.pat then (upd (upd m (c * 8 + 6) (m (c * 8 + 6) + 1)) (c * 8 + 7) 1, false, true)
    else (upd m (c * 8 + 6) (m (c * 8 + 6) + 1), false, false)
  else (m, false, false)
def obit (b : Bool) (x : Int32) (c : Nat) : Int32 := if b = true then x ||| (1 <<< (nI c &&& 31)) else x
section
variable {s : SV} {m : Nat → Int32} {c t : Nat}
theorem gC_at {i : Nat} (h : i < c * 8 ∨ c * 8 + 8 ≤ i) : (gC s m c).1 i = m i := by
  unfold gC stp
  split
  · split
    · split
      · dsimp only
        rw [upd1 (by omega), upd1 (by omega), upd1 (by omega), upd1 (by omega), upd1 (by omega), upd1 (by omega)]
      · dsimp only
        rw [upd1 (by omega), upd1 (by omega)]
    · split
      · dsimp only
        rw [upd1 (by omega), upd1 (by omega)]
      · dsimp only
        rw [upd1 (by omega)]
  · rfl
theorem gC_cok (hk : sok s) (h : cok s t m c) (he : ∀ w, w < s.nr → eok s m w) (hc : c < 5) : cok s (t + 1) (gC s m c).1 c := by
  obtain ⟨b1, b2, b3, b4, b5, b6, b7⟩ := hk
  obtain ⟨h5, h⟩ := h
  rcases h with ⟨p, hp, e0, e1, e2, e3, e6, e7⟩ | ⟨e0, ⟨w, hw, e1, e2⟩, ⟨l, l1, l20, e3⟩, ⟨k, hk, e6⟩, e7⟩
  · have hz : gC s m c = (m, false, false) := by
      unfold gC
      rw [if_neg]
      rintro ⟨a, -⟩
      rw [e0] at a
      exact n_ne1 (a := p) (by omega) a
    rw [hz]
    exact ⟨h5, Or.inl ⟨p, hp, e0, e1, e2, e3, e6, e7⟩⟩
  · have hm2 : ∃ p, p < s.np ∧ m (c * 8 + 2) = nI p := by
      obtain ⟨a, b, ha, hb, hab, f1, f2⟩ := he w hw
      rcases e2 with e2 | e2
      · exact ⟨a, ha, e2.trans f1⟩
      · exact ⟨b, hb, e2.trans f2⟩
    obtain ⟨p, hp, f2⟩ := hm2
    unfold gC stp
    split
    · rename_i z
      split
      · split
        · refine ⟨?_, Or.inl ⟨p, hp, ?_⟩⟩
          all_goals dsimp only
          all_goals simp (disch := omega) only [upd1, upd0, f2, and_self, z.2]
          exact h5
        · rename_i z3
          refine ⟨?_, Or.inr ?_⟩
          all_goals dsimp only
          all_goals simp (disch := omega) only [upd1, upd0, z.1, z.2, true_and]
          · exact h5
          · refine ⟨⟨w, hw, e1, e2⟩, ⟨l - 1, ?_, by omega, ?_⟩, ⟨0, by omega, rfl⟩, Or.inl trivial⟩
            · rw [e3, show (1 : Int32) = nI 1 from rfl, pk_sub l1] at z3
              have := mt (n_le (a := l - 1) (b := 0) rfl rfl (by omega) (by omega)).mpr z3
              omega
            · rw [e3]; exact n_sl l1
      · split
        · refine ⟨?_, Or.inr ?_⟩
          all_goals dsimp only
          all_goals simp (disch := omega) only [upd1, upd0, z.1, true_and]
          · exact h5
          · exact ⟨⟨w, hw, e1, e2⟩, ⟨l, l1, l20, e3⟩, ⟨k + 1, by omega, by rw [e6, nI_1]⟩, Or.inr trivial⟩
        · refine ⟨?_, Or.inr ?_⟩
          all_goals dsimp only
          all_goals simp (disch := omega) only [upd1, upd0, z.1, z.2, true_and]
          · exact h5
          · exact ⟨⟨w, hw, e1, e2⟩, ⟨l, l1, l20, e3⟩, ⟨k + 1, by omega, by rw [e6, nI_1]⟩, Or.inl trivial⟩
    · exact ⟨h5, Or.inr ⟨e0, ⟨w, hw, e1, e2⟩, ⟨l, l1, l20, e3⟩, ⟨k, by omega, e6⟩, e7⟩⟩
end
/-- some carts go on -/
def gM (s : SV) (m : Nat → Int32) : Nat → Nat → Int32
  | 0 => m
  | k + 1 => (gC s (gM s m k) k).1
def gCame (s : SV) (m : Nat → Int32) (c : Nat) : Bool := (gC s (gM s m c) c).2.1
def gWr (s : SV) (m : Nat → Int32) (c : Nat) : Bool := (gC s (gM s m c) c).2.2
/-- a turn -/
def tn (s : SV) (m : Nat → Int32) : Nat → Int32 := upd (gM s m s.nc) 64 (m 64 + 1)
def tns (s : SV) (m : Nat → Int32) : Nat → Nat → Int32
  | 0 => m
  | n + 1 => tn s (tns s m n)
def tC (s : SV) (m : Nat → Int32) : Int32 := bts (gCame s m) s.nc
def tW (s : SV) (m : Nat → Int32) : Int32 := bts (gWr s m) s.nc
def aC (s : SV) (m : Nat → Int32) : Nat → Int32
  | 0 => 0
  | n + 1 => aC s m n ||| tC s (tns s m n)
def aW (s : SV) (m : Nat → Int32) : Nat → Int32
  | 0 => 0
  | n + 1 => aW s m n ||| tW s (tns s m n)
def aN (s : SV) (m : Nat → Int32) : Nat → Nat
  | 0 => 0
  | n + 1 => aN s m n + cb (gCame s (tns s m n)) s.nc
section
variable {s : SV} {m : Nat → Int32} {t B : Nat}
theorem aN_le (hk : sok s) : ∀ n, aN s m n ≤ 5 * n
  | 0 => Nat.le_refl _
  | n + 1 => by
    have := aN_le hk n
    have := cb_le (gCame s (tns s m n)) s.nc
    have := hk.2.2.1
    unfold aN
    omega
theorem gM_hi (hk : sok s) : ∀ k, k ≤ s.nc → ∀ i, 40 ≤ i → gM s m k i = m i := by
  intro k
  induction k with
  | zero => intro _ i _; rfl
  | succ k ih =>
    intro hkn i hi
    have := hk.2.2.1
    unfold gM
    rw [gC_at (by omega)]
    exact ih (by omega) i hi
theorem gM_cok (hk : sok s) (hc : ∀ c, c < s.nc → cok s t m c) (he : ∀ w, w < s.nr → eok s m w) : ∀ k, k ≤ s.nc → ∀ c, c < s.nc → cok s (if c < k then t + 1 else t) (gM s m k) c := by
  intro k
  induction k with
  | zero => intro _ c h; rw [if_neg (by omega)]; exact hc c h
  | succ k ih =>
    intro hkn c h
    have h5 := hk.2.2.1
    have h12 := hk.2.1
    have he2 : ∀ w, w < s.nr → eok s (gM s m k) w := fun w hw => (he w hw).congr ⟨gM_hi hk k (by omega) _ (by omega), gM_hi hk k (by omega) _ (by omega)⟩
    unfold gM
    by_cases e : c = k
    · subst e
      rw [if_pos (by omega)]
      have := ih (by omega) c h
      rw [if_neg (by omega)] at this
      exact gC_cok hk this he2 (by omega)
    · have := ih (by omega) c h
      refine this.congr ?_ (fun j hj => gC_at (by omega)) (fun w hw _ => ⟨gC_at (by omega), gC_at (by omega)⟩)
      split <;> split <;> omega
theorem tn_ok (hk : sok s) (h : mok s B m) : mok s (B + 1) (tn s m) := by
  obtain ⟨⟨t, ht, e, hc⟩, he⟩ := h
  have h5 := hk.2.2.1
  have h12 := hk.2.1
  refine ⟨⟨t + 1, by omega, ?_, fun c h => ?_⟩, fun w hw => ?_⟩
  · unfold tn
    rw [upd0, e, nI_1]
  · have := gM_cok hk hc he s.nc (Nat.le_refl _) c h
    rw [if_pos h] at this
    unfold tn
    exact this.congr (Nat.le_refl _) (fun j hj => upd1 (by omega)) (fun w hw _ => ⟨upd1 (by omega), upd1 (by omega)⟩)
  · refine (he w hw).congr ?_
    unfold tn
    rw [upd1 (by omega), upd1 (by omega), gM_hi hk _ (Nat.le_refl _) _ (by omega), gM_hi hk _ (Nat.le_refl _) _ (by omega)]
    exact ⟨rfl, rfl⟩
theorem tns_ok (hk : sok s) (h : mok s B m) : ∀ n, mok s (B + n) (tns s m n)
  | 0 => h
  | n + 1 => tn_ok hk (tns_ok hk h n)
end
/-! the class -/
section
variable {G : rt_G} {d : Nat} {Q : rt_Q} {I : rt_I} {L : rt_L} {r : Nat} {s : SV} {m : Nat → Int32}
/-- what a turn of the class may change -/
def GF (M I : rt_I) : Prop := Fr M I [16, 17, 20] ∧ M 16 1 = I 16 1 ∧ ∀ j, j ≠ 5 → j ≠ 6 → M 20 j = I 20 j
theorem GF.refl (I : rt_I) : GF I I := ⟨Fr.refl _ _, rfl, fun _ _ _ => rfl⟩
theorem GF.trans {A B C : rt_I} (h1 : GF A B) (h2 : GF B C) : GF A C := ⟨h1.1.trans h2.1, h1.2.1.trans h2.2.1, fun j a b => (h1.2.2 j a b).trans (h2.2.2 j a b)⟩
theorem GF.S {M I : rt_I} (h : GF M I) (hS : XZ s I) : XZ s M := hS.fr ⟨by rw [h.1 12 (by decide)], by rw [h.1 12 (by decide)]⟩ h.2.1 (by rw [h.1 3 (by decide)]) (h.1 4 (by decide)) (h.1 13 (by decide)) (h.1 14 (by decide)) (h.1 15 (by decide)) (by rw [h.1 6 (by decide)]) (h.1 7 (by decide)) (h.2.2 4 (by decide) (by decide))
theorem GF.v {M I : rt_I} (h : GF M I) {j : Nat} {v : Int32} : GF (rt_u M 17 j v) I := ⟨h.1.u (by decide), (rt_u2 (by decide)).trans h.2.1, fun j a b => (rt_u2 (by decide)).trans (h.2.2 j a b)⟩
theorem GF.b {M I : rt_I} (h : GF M I) {j : Nat} {v : Int32} (hj : j = 5 ∨ j = 6) : GF (rt_u M 20 j v) I := ⟨h.1.u (by decide), (rt_u2 (by decide)).trans h.2.1, fun k a b => (rt_u1 (by omega)).trans (h.2.2 k a b)⟩
theorem XMo.w {k : Nat} {v : Int32} (h : XMo s m I 16) (hk : k < 40) : XMo s (upd m k v) (rt_u I 17 k v) 16 := by
  obtain ⟨a1, a2, a3, a4⟩ := h
  refine ⟨?_, ?_, fun w hw => ?_, fun w hw => ?_⟩
  · rw [rt_u2 (by decide), upd1 (by omega)]; exact a1
  · show AG _ (rt_u I 17 k v 17) _
    rw [rt_u_eq]; exact a2.up
  · rw [rt_u2 (by decide), upd1 (by omega)]; exact a3 w hw
  · rw [rt_u2 (by decide), upd1 (by omega)]; exact a4 w hw
theorem XMo.wL {k : Nat} {v : Int32} (h : XMo s m I 16) (hv : m k = v) : XMo s m (rt_u I 17 k v) 16 := by
  obtain ⟨a1, a2, a3, a4⟩ := h
  refine ⟨?_, ?_, fun w hw => ?_, fun w hw => ?_⟩
  · rw [rt_u2 (by decide)]; exact a1
  · show AG _ (rt_u I 17 k v 17) _
    rw [rt_u_eq]; exact a2.upL hv
  · rw [rt_u2 (by decide)]; exact a3 w hw
  · rw [rt_u2 (by decide)]; exact a4 w hw
theorem XMo.b {k : Nat} {v : Int32} (h : XMo s m I 16) : XMo s m (rt_u I 20 k v) 16 := h.fr (rt_u2 (by decide)) (rt_u_ne (by decide)) (rt_u_ne (by decide)) (rt_u_ne (by decide))
theorem wX9_goOn {c t : Nat} {x hi : Int32} (hS : XZ s I) (hk : sok s) (hM : XMo s m I 16) (hc : c < s.nc) (hcok : cok s t m c) (ht : t < 2 ^ 30) (he : ∀ w, w < s.nr → eok s m w) (hx : x = nI c) (hhi : hi = s.lv (m 64))
    (hQ : ∀ M, GF M I → XMo s (gC s m c).1 M 16 → M 20 5 = obit (gC s m c).2.1 (I 20 5) c → M 20 6 = obit (gC s m c).2.2 (I 20 6) c → Q (b2i (gC s m c).2.1) M L r) : rt_Call G (d + 2) kX9_goOn [.ref 20, .int x, .int hi] I L r Q := by
  have h5 := hk.2.2.1
  have h12 := hk.2.1
  have h8 := hk.1
  obtain ⟨a1, a2, a3, a4, a5, a6, a7, a8, a9, a10⟩ := id hS
  have hr : ∀ j, j < 8 → I 17 (c * 8 + j) = m (c * 8 + j) := fun j hj => hM.2.1 _ (by omega)
  refine v_X9_goOn _ _ _ _ _ (sX4_of (j := 1) hx rfl (by omega) ?_)
  rw [hr 1 (by omega)]
  have hcok' := hcok
  obtain ⟨q5, hq⟩ := hcok
  rcases hq with ⟨p, hp, e0, e1, e2, e3, e6, e7⟩ | ⟨e0, ⟨w, hw, e1, e2⟩, ⟨l, l1, l20, e3⟩, ⟨k, hk6, e6⟩, e7⟩
  · have hz : gC s m c = (m, false, false) := by
      unfold gC
      rw [if_neg]
      rintro ⟨a, -⟩
      rw [e0] at a
      exact n_ne1 (a := p) (by omega) a
    rw [hz] at hQ
    refine sX2_hasRoad a2 (fun z => ?_) (fun z => ⟨fun _ => hQ I (GF.refl _) hM rfl rfl, fun y => absurd rfl y⟩)
    rw [e1] at z
    exact absurd (by decide) z.1
  · rw [e1]
    refine sX2_hasRoad a2 (fun z => ⟨fun y => absurd y (by decide), fun _ => sX4_of (j := 7) hx rfl (by omega) ?_⟩) (fun z => absurd ((inr_iff (by omega)).mpr ⟨w, hw, rfl⟩) z)
    rw [hr 7 (by omega)]
    refine ⟨fun y => ⟨vp_nI rfl (by omega) (by omega), ?_⟩, fun y => ?_⟩
    · rw [cl (n := w) rfl (by omega), a8 w hw, hhi]
      have e4 : (gC s m c) = if s.th w (m 64) = true then
      (if m (c * 8 + 3) - 1 ≤ 0 then (stp (upd (upd m (c * 8 + 6) 0) (c * 8 + 3) (m (c * 8 + 3) - 1)) c (m (c * 8 + 2)), true, false)
      else (upd (upd m (c * 8 + 6) 0) (c * 8 + 3) (m (c * 8 + 3) - 1), false, false))
    else if m (c * 8 + 5) = 0 ∧ ¬ m (c * 8 + 6) + 1 < s.pat then (upd (upd m (c * 8 + 6) (m (c * 8 + 6) + 1)) (c * 8 + 7) 1, false, true)
    else (upd m (c * 8 + 6) (m (c * 8 + 6) + 1), false, false) := by
        unfold gC
        rw [if_pos ⟨e0, y⟩, e1, cl (n := w) rfl (by omega)]
      rw [e4] at hQ
      refine ⟨fun z => ?_, fun z => ?_⟩
      · have hth : ¬ s.th w (m 64) = true := by
          unfold SV.lv at z
          unfold SV.th thr
          simpa using z
        rw [if_neg hth] at hQ
        refine sX4_of (j := 6) hx rfl (by omega) ?_
        rw [hr 6 (by omega)]
        refine sX4_put (j := 6) hx rfl (by omega) (sX4_of (j := 5) hx rfl (by omega) ?_)
        rw [rt_u1 (by omega), hr 5 (by omega), rt_u2 (by decide), a10]
        refine ⟨fun y5 => ?_, fun y5 => ⟨fun y6 => ?_, fun y6 => ?_⟩⟩
        · rw [if_neg (fun q => y5 q.1)] at hQ
          exact hQ _ (GF.refl I).v (hM.w (by omega)) rfl rfl
        · rw [if_neg (fun q => q.2 y6)] at hQ
          exact hQ _ (GF.refl I).v (hM.w (by omega)) rfl rfl
        · rw [if_pos ⟨y5, y6⟩] at hQ
          refine sX4_put (j := 7) hx rfl (by omega) ?_
          refine hQ _ ((GF.refl I).v.v.b (Or.inr rfl)) ((hM.w (by omega)).w (by omega)).b rfl ?_
          rw [rt_u_at, rt_u2 (by decide), rt_u2 (by decide), hx]
          rfl
      · have hth : s.th w (m 64) = true := by
          unfold SV.lv at z
          unfold SV.th thr
          simpa using Int32.not_lt.mp z
        rw [if_pos hth] at hQ
        refine sX4_of (j := 3) hx rfl (by omega) ?_
        rw [hr 3 (by omega)]
        refine sX4_put (j := 6) hx rfl (by omega) (sX4_put (j := 3) hx rfl (by omega) ?_)
        refine ⟨fun y3 => ?_, fun y3 => ?_⟩
        · rw [if_pos y3] at hQ
          refine sX4_of (j := 2) hx rfl (by omega) ?_
          rw [rt_u1 (by omega), rt_u1 (by omega), hr 2 (by omega)]
          refine sX4_putAtPlace hx (by omega) ?_
          refine hQ _ ((GF.refl I).v.v.v.v.v.v.v.b (Or.inl rfl)) ?_ ?_ rfl
          · refine (((((((hM.w (by omega)).w (by omega)).w (by omega)).w (by omega)).w (by omega)).w (by omega)).wL ?_).b
            rw [upd1 (by omega), upd1 (by omega), upd1 (by omega), upd1 (by omega), upd1 (by omega), upd0]
          · rw [rt_u_at, rt_u2 (by decide), rt_u2 (by decide), rt_u2 (by decide), rt_u2 (by decide), rt_u2 (by decide), rt_u2 (by decide), rt_u2 (by decide), hx]
            rfl
        · rw [if_neg y3] at hQ
          exact hQ _ (GF.refl I).v.v ((hM.w (by omega)).w (by omega)) rfl rfl
    · have hz : gC s m c = (m, false, false) := by
        unfold gC
        rw [if_neg (fun q => y q.2)]
      rw [hz] at hQ
      exact hQ I (GF.refl _) hM rfl rfl
theorem obit_bts {b : Nat → Bool} {k : Nat} {x : Int32} : obit (b k) (x ||| bts b k) k = x ||| bts b (k + 1) := by
  unfold obit
  rw [show bts b (k + 1) = if b k = true then bts b k ||| (1 <<< (nI k &&& 31)) else bts b k from rfl]
  split
  · rw [Int32.or_assoc]
  · rfl
theorem b2i_z {b : Bool} : b2i b = 0 ↔ b = false := by cases b <;> decide
theorem wX9_goBy {n B : Nat} {x : Int32} (hS : XZ s I) (hk : sok s) (hM : XMo s m I 16) (hm : mok s B m) (hB : B + n < 2 ^ 29) (hx : x = nI n)
    (hQ : ∀ M, GF M I → XMo s (tns s m n) M 16 → M 20 5 = aC s m n → M 20 6 = aW s m n → Q (nI (aN s m n)) M L r) : rt_Call G (d + 3) kX9_goBy [.ref 20, .int x] I L r Q := by
  have h5 := hk.2.2.1
  refine v_X9_goBy _ _ _ _ ?_
  subst hx
  refine rt_loop (P := fun i => ∀ M, GF M I → XMo s (tns s m i) M 16 → M 20 5 = aC s m i → M 20 6 = aW s m i → rt_AW G (d + 3) kX9_goBy Q 14 [some (.ref 20), some (.int (nI n)), some (.int (nI (aN s m i))), some (.int (nI i)), none, none] [] M L r) n ?_ ?_ _ (((GF.refl I).b (Or.inl rfl)).b (Or.inr rfl)) hM.b.b rfl rfl
  · intro M hG hMo h1 h2
    exact v_X9_goBy_14 _ _ _ _ _ _ ⟨fun _ => hQ M hG hMo h1 h2, fun z => absurd (Int32.le_refl _) z⟩
  · intro i hi ih M hG hMo hc hw
    have hmi := tns_ok hk hm i
    have hSM := hG.S hS
    refine v_X9_goBy_14 _ _ _ _ _ _ ⟨fun z => absurd ((nI_leI (by omega) (by omega)).mp z) (by omega), fun _ => wX8_heightAt hSM hk ?_⟩
    rw [hMo.1]
    obtain ⟨⟨t, ht, e64, hco⟩, he⟩ := hmi
    refine rt_loop (P := fun k => ∀ M', GF M' I → XMo s (gM s (tns s m i) k) M' 16 → M' 20 5 = aC s m i ||| bts (gCame s (tns s m i)) k → M' 20 6 = aW s m i ||| bts (gWr s (tns s m i)) k → rt_AW G (d + 3) kX9_goBy Q 38 [some (.ref 20), some (.int (nI n)), some (.int (nI (aN s m i + cb (gCame s (tns s m i)) k))), some (.int (nI i)), some (.int (s.lv (tns s m i 64))), some (.int (nI k))] [] M' L r) s.nc ?_ ?_ M hG hMo (by rw [hc, show bts _ 0 = 0 from rfl, Int32.or_zero]) (by rw [hw, show bts _ 0 = 0 from rfl, Int32.or_zero])
    · intro M' hG' hMo' hc' hw'
      have hS' := hG'.S hS
      refine v_X9_goBy_38 _ _ _ _ _ _ _ _ ⟨fun _ => ?_, fun z => absurd (by rw [hS'.2.2.1]; exact Int32.le_refl _) z⟩
      rw [nI_1]
      refine ih _ ⟨hG'.1.u (by decide), (rt_u1 (by decide)).trans hG'.2.1, fun j a b => (rt_u2 (by decide)).trans (hG'.2.2 j a b)⟩ ?_ ?_ ?_
      · have h64 := gM_hi (m := tns s m i) hk s.nc (Nat.le_refl _) 64 (by omega)
        obtain ⟨a1, a2, a3, a4⟩ := hMo'
        refine ⟨?_, ?_, fun w hw => ?_, fun w hw => ?_⟩
        · rw [rt_u_at, a1, h64]
          show _ = tn s (tns s m i) 64
          unfold tn
          rw [upd0]
        · show AG _ (rt_u M' 16 0 _ 17) (tn s (tns s m i))
          rw [rt_u_ne (by decide)]
          unfold tn
          exact (AG.upO (a2.symm) (by omega)).symm
        · rw [rt_u2 (by decide)]
          show _ = tn s (tns s m i) _
          unfold tn
          have := hk.2.1
          rw [upd1 (by omega)]
          exact a3 w hw
        · rw [rt_u2 (by decide)]
          show _ = tn s (tns s m i) _
          unfold tn
          have := hk.2.1
          rw [upd1 (by omega)]
          exact a4 w hw
      · rw [rt_u2 (by decide), hc']; rfl
      · rw [rt_u2 (by decide), hw']; rfl
    · intro k hkn ih2 M' hG' hMo' hc' hw'
      have hS' := hG'.S hS
      have hck := gM_cok hk hco he k (by omega) k hkn
      rw [if_neg (by omega)] at hck
      refine v_X9_goBy_38 _ _ _ _ _ _ _ _ ⟨fun z => absurd ((n_le hS'.2.2.1 rfl (by omega) (by omega)).mp z) (by omega), fun _ => wX9_goOn hS' hk hMo' hkn hck (by omega) (fun w hw => (he w hw).congr ⟨gM_hi hk k (by omega) _ (by omega), gM_hi hk k (by omega) _ (by omega)⟩) rfl (by rw [gM_hi hk k (by omega) _ (by omega)]) (fun M2 hG2 hMo2 hc2 hw2 => ?_)⟩
      have e1 : M2 20 5 = aC s m i ||| bts (gCame s (tns s m i)) (k + 1) := by
        rw [hc2, hc']; exact obit_bts (b := gCame s (tns s m i)) (k := k) (x := aC s m i)
      have e2 : M2 20 6 = aW s m i ||| bts (gWr s (tns s m i)) (k + 1) := by
        rw [hw2, hw']; exact obit_bts (b := gWr s (tns s m i)) (k := k) (x := aW s m i)
      have hih := ih2 M2 (hG2.trans hG') hMo2 e1 e2
      rw [cb_s] at hih
      rw [nI_1, nI_1]
      refine ⟨fun z => ?_, fun z => ?_⟩
      · rw [if_neg (show ¬ gCame s (tns s m i) k = true from by rw [show gCame s (tns s m i) k = false from b2i_z.mp z]; decide)] at hih
        exact hih
      · rw [if_pos (show gCame s (tns s m i) k = true from by
          cases hh : gCame s (tns s m i) k with
          | true => rfl
          | false => exact absurd (b2i_z.mpr hh) z)] at hih
        exact hih
end
