/-! THE FACE: years, class -/
theorem gC_wr {s : SV} {m : Nat → Int32} {c : Nat} : ((gC s m c).2.2 = true ↔ (¬ m (c * 8 + 7) = 1 ∧ (gC s m c).1 (c * 8 + 7) = 1)) ∧ (m (c * 8 + 7) = 1 → (gC s m c).1 (c * 8 + 7) = 1) := by
  by_cases h : m (c * 8) = -1 ∧ m (c * 8 + 7) = 0
  · have h7 := h.2
    have hne : ¬ m (c * 8 + 7) = 1 := by rw [h7]; decide
    have no : ∀ v : Int32, v = m (c * 8 + 7) → ((false = true ↔ (¬ m (c * 8 + 7) = 1 ∧ v = 1)) ∧ (m (c * 8 + 7) = 1 → v = 1)) := by
      intro v hv
      rw [hv]
      exact ⟨⟨fun a => (Bool.noConfusion a), fun a => absurd a.2 a.1⟩, fun a => a⟩
    unfold gC stp
    rw [if_pos h]
    split
    · split
      · refine no _ ?_
        dsimp only
        rw [upd1 (by omega), upd1 (by omega), upd1 (by omega), upd1 (by omega), upd1 (by omega), upd1 (by omega)]
      · refine no _ ?_
        dsimp only
        rw [upd1 (by omega), upd1 (by omega)]
    · split
      · exact ⟨⟨fun _ => ⟨hne, upd0⟩, fun _ => rfl⟩, fun _ => upd0⟩
      · refine no _ ?_
        dsimp only
        rw [upd1 (by omega)]
  · unfold gC
    rw [if_neg h]
    exact ⟨⟨fun a => (Bool.noConfusion a), fun a => absurd a.2 a.1⟩, fun a => a⟩
theorem gM_7 {s : SV} {m : Nat → Int32} {c : Nat} : ∀ k, gM s m k (c * 8 + 7) = if c < k then (gC s (gM s m c) c).1 (c * 8 + 7) else m (c * 8 + 7)
  | 0 => rfl
  | k + 1 => by
    show (gC s (gM s m k) k).1 (c * 8 + 7) = _
    by_cases e : c = k
    · subst e
      rw [if_pos (by omega)]
    · rw [gC_at (by omega), gM_7 k]
      by_cases q : c < k
      · rw [if_pos q, if_pos (by omega)]
      · rw [if_neg q, if_neg (by omega)]
def wrb (m m' : Nat → Int32) (c : Nat) : Bool := decide (¬ m (c * 8 + 7) = 1 ∧ m' (c * 8 + 7) = 1)
theorem tn_wr {s : SV} {m : Nat → Int32} {c : Nat} (hk : sok s) (hc : c < s.nc) : gWr s m c = wrb m (tn s m) c ∧ (m (c * 8 + 7) = 1 → tn s m (c * 8 + 7) = 1) := by
  have h5 := hk.2.2.1
  have e1 : tn s m (c * 8 + 7) = (gC s (gM s m c) c).1 (c * 8 + 7) := by
    unfold tn
    rw [upd1 (by omega), gM_7, if_pos hc]
  have e2 : gM s m c (c * 8 + 7) = m (c * 8 + 7) := by rw [gM_7, if_neg (by omega)]
  obtain ⟨h1, h2⟩ := gC_wr (s := s) (m := gM s m c) (c := c)
  rw [e2] at h1 h2
  rw [← e1] at h1 h2
  refine ⟨?_, h2⟩
  unfold gWr wrb
  rw [Bool.eq_iff_iff, decide_eq_true_eq]
  exact h1
theorem tns_wr {s : SV} {m : Nat → Int32} {c : Nat} (hk : sok s) (hc : c < s.nc) : ∀ n, m (c * 8 + 7) = 1 → tns s m n (c * 8 + 7) = 1
  | 0, h => h
  | n + 1, h => (tn_wr hk hc).2 (tns_wr hk hc n h)
theorem bts_or {b c : Nat → Bool} {n : Nat} (hn : n ≤ 31) : bts b n ||| bts c n = bts (fun k => b k || c k) n := by
  rw [bts_n hn, bts_n hn, bts_n hn, nI_or]
  congr 1
  apply Nat.eq_of_testBit_eq
  intro i
  rw [Nat.testBit_or, btn_bit, btn_bit, btn_bit]
  cases decide (i < n) <;> simp
theorem wrb_or {m m1 m2 : Nat → Int32} {c : Nat} (h1 : m (c * 8 + 7) = 1 → m1 (c * 8 + 7) = 1) (h2 : m1 (c * 8 + 7) = 1 → m2 (c * 8 + 7) = 1) : (wrb m m1 c || wrb m1 m2 c) = wrb m m2 c := by
  unfold wrb
  by_cases a : m (c * 8 + 7) = 1
  · simp [a, h1 a]
  · by_cases b : m1 (c * 8 + 7) = 1
    · simp [a, b, h2 b]
    · simp [a, b]
theorem aW_wr {s : SV} {m : Nat → Int32} (hk : sok s) : ∀ n, aW s m n = bts (wrb m (tns s m n)) s.nc
  | 0 => by
    have h5 := hk.2.2.1
    show 0 = bts (wrb m m) s.nc
    have e : bts (wrb m m) s.nc = bts (fun _ => false) s.nc := bts_congr (fun k _ => decide_eq_false (fun a => a.1 a.2))
    rw [e, bts_n (by omega), btn_false]
    rfl
  | n + 1 => by
    have h5 := hk.2.2.1
    show aW s m n ||| bts (gWr s (tns s m n)) s.nc = _
    rw [aW_wr hk n, bts_or (by omega)]
    refine bts_congr (fun c hc => ?_)
    rw [(tn_wr hk hc).1]
    exact wrb_or (tns_wr hk hc n) ((tn_wr hk hc).2)
theorem wrb_cb {m m1 m2 : Nat → Int32} {n : Nat} (h1 : ∀ c, c < n → m (c * 8 + 7) = 1 → m1 (c * 8 + 7) = 1) (h2 : ∀ c, c < n → m1 (c * 8 + 7) = 1 → m2 (c * 8 + 7) = 1) : cb (wrb m m1) n + cb (wrb m1 m2) n = cb (wrb m m2) n := by
  induction n with
  | zero => rfl
  | succ n ih =>
    have := ih (fun c hc => h1 c (by omega)) (fun c hc => h2 c (by omega))
    have a1 := h1 n (by omega)
    have a2 := h2 n (by omega)
    rw [cb_s, cb_s, cb_s, ← this]
    unfold wrb
    by_cases a : m (n * 8 + 7) = 1
    · simp [a, a1 a]
    · by_cases b : m1 (n * 8 + 7) = 1
      · simp [a, b, a2 b]; omega
      · by_cases c : m2 (n * 8 + 7) = 1
        · simp [a, b, c]; omega
        · simp [a, b, c]
/-! the drawing of numbers -/
/-- the next number that is drawn (so that no comparison unrolls the product) -/
noncomputable def nd (x : Int32) : Int32 := @Classical.epsilon Int32 ⟨0⟩ (fun y => y = x * 1103515245 + 12345)
theorem nd_eq (x : Int32) : nd x = x * 1103515245 + 12345 := @Classical.epsilon_spec Int32 (fun y => y = x * 1103515245 + 12345) ⟨_, rfl⟩
def dv (x : Int32) (k : Nat) : Nat := (rt_ushr x 16).toNatClampNeg % k
theorem dv_ex {x : Int32} {k : Nat} (h0 : 0 < k) (hk : k < 1000) : dv x k < k ∧ rt_rem (rt_ushr x 16) (nI k) = nI (dv x k) := by
  have e : x = nI x.toBitVec.toNat := by
    apply Int32.toBitVec_inj.1
    show x.toBitVec = BitVec.ofNat 32 x.toBitVec.toNat
    rw [BitVec.ofNat_toNat, BitVec.setWidth_eq]
  have hlt := x.toBitVec.isLt
  have e2 : rt_ushr x 16 = nI (x.toBitVec.toNat / 65536) := by
    conv => lhs; rw [e]
    exact uI_16 hlt
  refine ⟨Nat.mod_lt _ h0, ?_⟩
  unfold dv
  rw [e2, cl (n := x.toBitVec.toNat / 65536) rfl (by omega)]
  exact rem_nI (by omega) h0 (by omega)
noncomputable def yw (s : SV) (x : Int32) : Nat := dv (nd x) s.nr
noncomputable def yp (s : SV) (x : Int32) : Nat := dv (nd (nd x)) s.np
noncomputable def yq (s : SV) (x : Int32) : Nat := if dv (nd (nd (nd x))) s.np = yp s x then (yp s x + 1) % s.np else dv (nd (nd (nd x))) s.np
noncomputable def yn (x : Int32) : Nat := dv (nd (nd (nd (nd x)))) 12
noncomputable def ym (s : SV) (m : MO) (x : Int32) : MO := (aStorm s m (nI (yw s x)) (nI (yp s x)) (nI (yq s x))).2
/-- moment, what was drawn last, how many came, how many storms were refused -/
noncomputable def yr1 (s : SV) (st : MO × Int32 × Nat × Nat) : MO × Int32 × Nat × Nat := (tns s (ym s st.1 st.2.1) (yn st.2.1), nd (nd (nd (nd st.2.1))), st.2.2.1 + aN s (ym s st.1 st.2.1) (yn st.2.1), st.2.2.2 + if usd s st.1 (nI (yw s st.2.1)) = true then 1 else 0)
noncomputable def yrs (s : SV) : Nat → MO × Int32 × Nat × Nat → MO × Int32 × Nat × Nat
  | 0, st => st
  | i + 1, st => yr1 s (yrs s i st)
theorem yrs_s (s : SV) (i : Nat) (st : MO × Int32 × Nat × Nat) : yrs s (i + 1) st = yr1 s (yrs s i st) := rfl
theorem q_lt {p q n : Nat} (hp : p < n) (hq : q < n) (h2 : 2 ≤ n) : (if q = p then (p + 1) % n else q) < n ∧ ¬ p = (if q = p then (p + 1) % n else q) := by
  split
  · refine ⟨Nat.mod_lt _ (by omega), fun q => ?_⟩
    by_cases z : p + 1 < n
    · rw [Nat.mod_eq_of_lt z] at q; omega
    · rw [show p + 1 = n by omega, Nat.mod_self] at q; omega
  · exact ⟨hq, fun q => by omega⟩
theorem yq_lt {s : SV} {x : Int32} (h2 : 2 ≤ s.np) (h8 : s.np ≤ 8) : yp s x < s.np ∧ yq s x < s.np ∧ ¬ yp s x = yq s x := by
  have h0 : 0 < s.np := by omega
  have h1 : s.np < 1000 := by omega
  have a : yp s x < s.np := (dv_ex (x := nd (nd x)) h0 h1).1
  have b := (dv_ex (x := nd (nd (nd x))) h0 h1).1
  have c := q_lt a b h2
  unfold yq
  exact ⟨a, c.1, c.2⟩
theorem yn_lt (x : Int32) : yn x < 12 := (dv_ex (by decide) (by decide)).1
theorem sM_7 {m : MO} {w c : Nat} {y z : Int32} (hc : c < 5) : sM m w y z (c * 8 + 7) = m (c * 8 + 7) := by
  unfold sM
  rw [upd1 (by omega), upd1 (by omega)]
theorem aStorm_7 {s : SV} {m : MO} {c : Nat} {x y z : Int32} (hc : c < 5) : (aStorm s m x y z).2 (c * 8 + 7) = m (c * 8 + 7) := by
  unfold aStorm
  split
  · split
    · rfl
    · exact sM_7 hc
  · rfl
theorem ym_ok {s : SV} {m : MO} {B : Nat} (hk : sok s) (hm : mok s B m) (x : Int32) : mok s B (ym s m x) := by
  unfold ym
  exact aStorm_ok hk hm _ _ _
theorem ym_7 {s : SV} {m : MO} {c : Nat} {x : Int32} (hc : c < 5) : ym s m x (c * 8 + 7) = m (c * 8 + 7) := by
  unfold ym
  exact aStorm_7 hc
theorem yr1_ok {s : SV} {B : Nat} {st : MO × Int32 × Nat × Nat} (hk : sok s) (hm : mok s B st.1) : mok s (B + 12) (yr1 s st).1 := by
  have h4 := ym_ok hk hm st.2.1
  have hn := yn_lt st.2.1
  unfold yr1
  dsimp only
  generalize yn st.2.1 = k at *
  generalize ym s st.1 st.2.1 = m' at *
  exact (tns_ok hk h4 k).mono (by omega)
theorem yr1_7 {s : SV} {c : Nat} {st : MO × Int32 × Nat × Nat} (hk : sok s) (hc : c < s.nc) (h : st.1 (c * 8 + 7) = 1) : (yr1 s st).1 (c * 8 + 7) = 1 := by
  have h5 := hk.2.2.1
  have h4 : ym s st.1 st.2.1 (c * 8 + 7) = 1 := (ym_7 (by omega)).trans h
  unfold yr1
  dsimp only
  exact tns_wr hk hc _ h4
