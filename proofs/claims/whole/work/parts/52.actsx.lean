/-! WHAT IS DONE: out, round, chain, load, storm as numbers; the class's; rides -/
def inb (x : Int32) (n : Nat) : Bool := decide (¬ x < 0) && decide (x < nI n)
theorem inb_iff {x : Int32} {n : Nat} : inb x n = true ↔ inr x n := by unfold inb inr; simp
def fe (m : Nat → Int32) (w : Nat) (p : Int32) : Int32 := fend (m (40 + 2 * w)) (m (41 + 2 * w)) p
def cc (x : Int32) : Nat := x.toNatClampNeg
theorem cc_nI {n : Nat} (h : n < 2 ^ 31) : cc (nI n) = n := nI_clamp h
def oT (s : SV) (m : Nat → Int32) (c w : Nat) : Int32 := s.tkn w (cc (m (c * 8))) (cc (fe m w (m (c * 8)))) (m (c * 8 + 4))
def oM (s : SV) (m : Nat → Int32) (c w : Nat) : Nat → Int32 := upd (upd (upd (upd m (c * 8) (-1)) (c * 8 + 1) (nI w)) (c * 8 + 2) (fe m w (m (c * 8)))) (c * 8 + 3) (oT s m c w)
def aOut (s : SV) (m : Nat → Int32) (x y : Int32) : Int32 × (Nat → Int32) :=
  if (inb x s.nc && inb y s.nr) = true then
    if m (cc x * 8) = -1 then (-2, m)
    else if fe m (cc y) (m (cc x * 8)) = -1 then (-3, m)
    else if s.th (cc y) (m 64) = true then (oT s m (cc x) (cc y), oM s m (cc x) (cc y))
    else (-4, m)
  else (-1, m)
def rW (m : Nat → Int32) (c : Nat) : Nat := cc (m (c * 8 + 1))
def rF (m : Nat → Int32) (c : Nat) : Int32 := fe m (rW m c) (m (c * 8 + 2))
def rT (s : SV) (m : Nat → Int32) (c : Nat) : Int32 := rt_max 1 (s.tkn (rW m c) (cc (m (c * 8 + 2))) (cc (rF m c)) (m (c * 8 + 4)) - m (c * 8 + 3))
def aRound (s : SV) (m : Nat → Int32) (x : Int32) : Int32 × (Nat → Int32) :=
  if inb x s.nc = true then
    if m (cc x * 8) = -1 ∧ m (cc x * 8 + 7) = 0 then (rT s m (cc x), upd (upd m (cc x * 8 + 2) (rF m (cc x))) (cc x * 8 + 3) (rT s m (cc x)))
    else (-1, m)
  else (-1, m)
def aChain (s : SV) (m : Nat → Int32) (x v : Int32) : Int32 × (Nat → Int32) :=
  if inb x s.nc = true then
    if m (cc x * 8 + 7) = 0 ∧ (¬ v < 0 ∧ ¬ 1 < v) then (m (cc x * 8 + 5), upd m (cc x * 8 + 5) v) else (-1, m)
  else (-1, m)
def aLoad (s : SV) (m : Nat → Int32) (x v : Int32) : Int32 × (Nat → Int32) :=
  if inb x s.nc = true then
    if ¬ m (cc x * 8) = -1 ∧ (¬ v < 0 ∧ ¬ 9 < v) then (m (cc x * 8 + 4), upd m (cc x * 8 + 4) v) else (-1, m)
  else (-1, m)
def anyb (b : Nat → Bool) : Nat → Bool
  | 0 => false
  | k + 1 => anyb b k || b k
def usd (s : SV) (m : Nat → Int32) (x : Int32) : Bool := anyb (fun c => decide (m (c * 8 + 1) = x)) s.nc
def sM (m : Nat → Int32) (w : Nat) (y z : Int32) : Nat → Int32 := upd (upd m (40 + 2 * w) y) (41 + 2 * w) z
def aStorm (s : SV) (m : Nat → Int32) (x y z : Int32) : Int32 × (Nat → Int32) :=
  if (inb x s.nr && (inb y s.np && inb z s.np)) = true ∧ ¬ y = z then
    if usd s m x = true then (-2, m) else (8 * m (40 + 2 * cc x) + m (41 + 2 * cc x), sM m (cc x) y z)
  else (-1, m)
theorem bit_pos : ∀ k : Fin 31, ¬ ((1 : Int32) <<< (nI k.val &&& 31)) = 0 := by decide +kernel
theorem or_z {x y : Int32} : x ||| y = 0 ↔ x = 0 ∧ y = 0 := by
  constructor
  · intro h
    have h1 := congrArg Int32.toBitVec h
    rw [Int32.toBitVec_or] at h1
    have h2 : ∀ i, (x.toBitVec.getLsbD i || y.toBitVec.getLsbD i) = false := by
      intro i
      rw [← BitVec.getLsbD_or, h1]
      simp
    constructor
    · apply Int32.toBitVec_inj.mp
      apply BitVec.eq_of_getLsbD_eq
      intro i hi
      have := h2 i
      simp only [Bool.or_eq_false_iff] at this
      rw [this.1]; simp
    · apply Int32.toBitVec_inj.mp
      apply BitVec.eq_of_getLsbD_eq
      intro i hi
      have := h2 i
      simp only [Bool.or_eq_false_iff] at this
      rw [this.2]; simp
  · rintro ⟨rfl, rfl⟩; rfl
theorem bts_z {b : Nat → Bool} : ∀ {n : Nat}, n ≤ 31 → (bts b n = 0 ↔ anyb b n = false)
  | 0, _ => by simp [bts, anyb]
  | n + 1, h => by
    have ih := bts_z (b := b) (n := n) (by omega)
    have hb := bit_pos ⟨n, by omega⟩
    unfold bts anyb
    by_cases e : b n = true
    · rw [if_pos e, or_z, e, Bool.or_true]
      exact ⟨fun q => absurd q.2 hb, fun q => by cases q⟩
    · rw [if_neg e, ih]
      have : b n = false := by cases hh : b n <;> simp_all
      rw [this, Bool.or_false]
theorem fe_ok {s : SV} {m : Nat → Int32} {w p : Nat} (hk : sok s) (he : eok s m w) (h : ¬ fe m w (nI p) = -1) : ∃ q, q < s.np ∧ fe m w (nI p) = nI q ∧ ((m (40 + 2 * w) = nI p ∧ m (41 + 2 * w) = nI q) ∨ (m (41 + 2 * w) = nI p ∧ m (40 + 2 * w) = nI q)) := by
  obtain ⟨a, b, ha, hb, hab, e1, e2⟩ := he
  unfold fe fend at *
  split
  · rename_i z
    exact ⟨b, hb, e2, Or.inl ⟨z, e2⟩⟩
  · rename_i z
    split
    · rename_i z2
      exact ⟨a, ha, e1, Or.inr ⟨z2, e1⟩⟩
    · rename_i z2
      rw [if_neg z, if_neg z2] at h
      exact absurd rfl h
theorem fe_end {s : SV} {m : Nat → Int32} {w : Nat} {x : Int32} (he : eok s m w) (h : x = m (40 + 2 * w) ∨ x = m (41 + 2 * w)) (hk : sok s) : ∃ p q, p < s.np ∧ q < s.np ∧ x = nI p ∧ fe m w x = nI q ∧ (fe m w x = m (40 + 2 * w) ∨ fe m w x = m (41 + 2 * w)) := by
  obtain ⟨a, b, ha, hb, hab, e1, e2⟩ := he
  have h8 := hk.1
  rcases h with h | h
  · refine ⟨a, b, ha, hb, h.trans e1, ?_⟩
    unfold fe fend
    rw [if_pos h.symm]
    exact ⟨e2, Or.inr rfl⟩
  · refine ⟨b, a, hb, ha, h.trans e2, ?_⟩
    unfold fe fend
    rw [if_neg (by rw [h, e1, e2]; intro z; exact hab ((nI_eq (by omega) (by omega)).mp z)), if_pos h.symm]
    exact ⟨e1, Or.inl rfl⟩
theorem tkn_ex (s : SV) (w p q : Nat) (l : Int32) : ∃ k, 1 ≤ k ∧ k ≤ 20 ∧ s.tkn w p q l = nI k := clp_ex _
theorem max1_ex {k l : Nat} (hk : k ≤ 20) (hl : l ≤ 20) : ∃ j, 1 ≤ j ∧ j ≤ 20 ∧ rt_max 1 (nI k - nI l) = nI j := by
  unfold rt_max
  by_cases h : l < k
  · rw [pk_sub (by omega)]
    by_cases h1 : (1 : Int32) < nI (k - l)
    · rw [if_pos h1]
      exact ⟨k - l, by omega, by omega, rfl⟩
    · rw [if_neg h1]
      exact ⟨1, by omega, by omega, rfl⟩
  · rw [if_neg]
    · exact ⟨1, by omega, by omega, rfl⟩
    · intro z
      rcases Nat.lt_or_ge k l with h2 | h2
      · have := pk_sneg (a := k) (b := l) (by omega) h2
        exact absurd (Int32.lt_trans z this) (by decide)
      · have : k = l := by omega
        subst this
        rw [pk_sub (by omega), Nat.sub_self] at z
        exact absurd z (by decide)
/-! what is done leaves a right moment -/
section
variable {s : SV} {m : Nat → Int32} {B : Nat}
theorem mok_cart (hk : sok s) (h : mok s B m) {m' : Nat → Int32} {c : Nat} (hc : c < s.nc) (hm : ∀ i, i < c * 8 ∨ c * 8 + 8 ≤ i → m' i = m i) (hcok : ∀ t, t ≤ B → m 64 = nI t → cok s t m c → cok s t m' c) : mok s B m' := by
  obtain ⟨⟨t, ht, e, hco⟩, he⟩ := h
  have h5 := hk.2.2.1
  have h12 := hk.2.1
  refine ⟨⟨t, ht, (hm 64 (by omega)).trans e, fun c' hc' => ?_⟩, fun w hw => (he w hw).congr ⟨hm _ (by omega), hm _ (by omega)⟩⟩
  by_cases e2 : c' = c
  · subst e2; exact hcok t ht e (hco _ hc')
  · exact (hco c' hc').congr (Nat.le_refl _) (fun j hj => hm _ (by omega)) (fun w hw _ => ⟨hm _ (by omega), hm _ (by omega)⟩)
theorem aOut_ok (hk : sok s) (h : mok s B m) (x y : Int32) : mok s B (aOut s m x y).2 := by
  have h5 := hk.2.2.1
  have h12 := hk.2.1
  have h8 := hk.1
  unfold aOut
  split
  · rename_i z
    rw [Bool.and_eq_true, inb_iff, inb_iff] at z
    obtain ⟨c, hc, rfl⟩ := (inr_iff (by omega)).mp z.1
    obtain ⟨w, hw, rfl⟩ := (inr_iff (by omega)).mp z.2
    rw [cc_nI (by omega), cc_nI (by omega)]
    split
    · exact h
    · rename_i z1
      split
      · exact h
      · rename_i z2
        split
        · refine mok_cart hk h hc (fun i hi => ?_) (fun t ht e hcok => ?_)
          · show oM s m c w i = _
            unfold oM
            rw [upd1 (by omega), upd1 (by omega), upd1 (by omega), upd1 (by omega)]
          · obtain ⟨q5, hq⟩ := hcok
            rcases hq with ⟨p, hp, e0, e1, e2, e3, e6, e7⟩ | ⟨e0, -⟩
            · obtain ⟨k, k1, k20, ek⟩ := tkn_ex s w (cc (m (c * 8))) (cc (fe m w (m (c * 8)))) (m (c * 8 + 4))
              have z2' := z2
              rw [e0] at z2'
              obtain ⟨q, hq, f1, f2⟩ := fe_ok hk (h.2 w hw) z2'
              show cok s t (oM s m c w) c
              unfold oM cok
              simp (disch := omega) only [upd1, upd0, true_and]
              refine ⟨q5, Or.inr ⟨⟨w, hw, rfl, ?_⟩, ⟨k, k1, k20, ek⟩, ⟨0, by omega, e6⟩, Or.inl e7⟩⟩
              rw [e0, f1]
              rcases f2 with f2 | f2
              · exact Or.inr f2.2.symm
              · exact Or.inl f2.2.symm
            · exact absurd e0 z1
        · exact h
  · exact h
theorem aRound_ok (hk : sok s) (h : mok s B m) (x : Int32) : mok s B (aRound s m x).2 := by
  have h5 := hk.2.2.1
  have h12 := hk.2.1
  have h8 := hk.1
  unfold aRound
  split
  · rename_i z
    rw [inb_iff] at z
    obtain ⟨c, hc, rfl⟩ := (inr_iff (by omega)).mp z
    rw [cc_nI (by omega)]
    split
    · rename_i z1
      refine mok_cart hk h hc (fun i hi => ?_) (fun t ht e hcok => ?_)
      · dsimp only
        rw [upd1 (by omega), upd1 (by omega)]
      · obtain ⟨q5, hq⟩ := hcok
        rcases hq with ⟨p, hp, e0, -⟩ | ⟨e0, ⟨w, hw, e1, e2⟩, ⟨l, l1, l20, e3⟩, ⟨k, hk6, e6⟩, e7⟩
        · exact absurd (e0.symm.trans z1.1) (n_ne1 (by omega))
        · have hrw : rW m c = w := by unfold rW; rw [e1]; exact cc_nI (by omega)
          obtain ⟨p, q, hp, hq, f1, f2, f3⟩ := fe_end (h.2 w hw) e2 hk
          have f4 : rF m c = fe m w (m (c * 8 + 2)) := by unfold rF; rw [hrw]
          have hT : ∃ j, 1 ≤ j ∧ j ≤ 20 ∧ rT s m c = nI j := by
            obtain ⟨kk, k1, k20, ek⟩ := tkn_ex s (rW m c) (cc (m (c * 8 + 2))) (cc (rF m c)) (m (c * 8 + 4))
            unfold rT
            rw [ek, e3]
            exact max1_ex k20 l20
          obtain ⟨j, j1, j20, ej⟩ := hT
          unfold cok
          simp (disch := omega) only [upd1, upd0]
          refine ⟨q5, Or.inr ⟨e0, ⟨w, hw, e1, by rw [f4]; exact f3⟩, ⟨j, j1, j20, ej⟩, ⟨k, hk6, e6⟩, e7⟩⟩
    · exact h
  · exact h
theorem aChain_ok (hk : sok s) (h : mok s B m) (x v : Int32) : mok s B (aChain s m x v).2 := by
  have h5 := hk.2.2.1
  unfold aChain
  split
  · rename_i z
    rw [inb_iff] at z
    obtain ⟨c, hc, rfl⟩ := (inr_iff (by omega)).mp z
    rw [cc_nI (by omega)]
    split
    · rename_i z1
      refine mok_cart hk h hc (fun i hi => upd1 (by omega)) (fun t ht e hcok => ?_)
      obtain ⟨q5, hq⟩ := hcok
      unfold cok
      simp (disch := omega) only [upd1, upd0]
      refine ⟨⟨?_, q5.2⟩, hq⟩
      obtain ⟨j, hj, rfl⟩ := nI_of z1.2.1
      have h1 := mt (nI_ltI (a := 1) (b := j) (by omega) (by omega)).mpr z1.2.2
      have : j = 0 ∨ j = 1 := by omega
      rcases this with rfl | rfl
      · exact Or.inl rfl
      · exact Or.inr rfl
    · exact h
  · exact h
theorem aLoad_ok (hk : sok s) (h : mok s B m) (x v : Int32) : mok s B (aLoad s m x v).2 := by
  have h5 := hk.2.2.1
  unfold aLoad
  split
  · rename_i z
    rw [inb_iff] at z
    obtain ⟨c, hc, rfl⟩ := (inr_iff (by omega)).mp z
    rw [cc_nI (by omega)]
    split
    · rename_i z1
      refine mok_cart hk h hc (fun i hi => upd1 (by omega)) (fun t ht e hcok => ?_)
      obtain ⟨q5, hq⟩ := hcok
      unfold cok
      simp (disch := omega) only [upd1, upd0]
      refine ⟨⟨q5.1, ?_⟩, hq⟩
      obtain ⟨j, hj, rfl⟩ := nI_of z1.2.1
      have h1 := mt (nI_ltI (a := 9) (b := j) (by omega) (by omega)).mpr z1.2.2
      exact ⟨j, by omega, rfl⟩
    · exact h
  · exact h
theorem anyb_f {b : Nat → Bool} : ∀ {n : Nat}, anyb b n = false → ∀ k, k < n → b k = false
  | 0, _, k, hk => by omega
  | n + 1, h, k, hk => by
    unfold anyb at h
    rw [Bool.or_eq_false_iff] at h
    by_cases e : k = n
    · rw [e]; exact h.2
    · exact anyb_f h.1 k (by omega)
theorem sM_ok (hk : sok s) (h : mok s B m) {w a b : Nat} (hw : w < s.nr) (ha : a < s.np) (hb : b < s.np) (hab : a ≠ b) (hu : usd s m (nI w) = false) : mok s B (sM m w (nI a) (nI b)) := by
  have h5 := hk.2.2.1
  have h12 := hk.2.1
  obtain ⟨⟨t, ht, e, hco⟩, he⟩ := h
  have hne : ∀ w', w' ≠ w → sM m w (nI a) (nI b) (40 + 2 * w') = m (40 + 2 * w') ∧ sM m w (nI a) (nI b) (41 + 2 * w') = m (41 + 2 * w') := by
    intro w' hw'
    unfold sM
    rw [upd1 (by omega), upd1 (by omega), upd1 (by omega), upd1 (by omega)]
    exact ⟨rfl, rfl⟩
  refine ⟨⟨t, ht, ?_, fun c hc => ?_⟩, fun w' hw' => ?_⟩
  · unfold sM
    rw [upd1 (by omega), upd1 (by omega)]
    exact e
  · have hc1 := anyb_f hu c hc
    refine (hco c hc).congr (Nat.le_refl _) (fun j hj => ?_) (fun w' hw' e1 => hne w' (fun q => ?_))
    · unfold sM
      rw [upd1 (by omega), upd1 (by omega)]
    · subst q
      simp only [e1, decide_true] at hc1
      cases hc1
  · by_cases q : w' = w
    · subst q
      refine ⟨a, b, ha, hb, hab, ?_, ?_⟩
      · unfold sM
        rw [upd1 (by omega), upd0]
      · unfold sM
        rw [upd0]
    · exact (he w' hw').congr (hne w' q)
theorem aStorm_ok (hk : sok s) (h : mok s B m) (x y z : Int32) : mok s B (aStorm s m x y z).2 := by
  have h12 := hk.2.1
  have h8 := hk.1
  unfold aStorm
  split
  · rename_i q
    simp only [Bool.and_eq_true, inb_iff] at q
    obtain ⟨w, hw, rfl⟩ := (inr_iff (by omega)).mp q.1.1
    obtain ⟨a, ha, rfl⟩ := (inr_iff (by omega)).mp q.1.2.1
    obtain ⟨b, hb, rfl⟩ := (inr_iff (by omega)).mp q.1.2.2
    split
    · exact h
    · rename_i q2
      rw [cc_nI (by omega)]
      exact sM_ok hk h hw ha hb (fun e => q.2 (by rw [e])) (by cases hh : usd s m (nI w) <;> simp_all)
  · exact h
end
