/-! THE FACE: period -/
def prd (s : SV) (k : Nat) : Nat := cc (s.td (k * 3))
theorem prd_ok {s : SV} (hk : sok s) {k : Nat} (h : k < s.nd) : 2 ≤ prd s k ∧ prd s k ≤ 60 ∧ s.td (k * 3) = nI (prd s k) := by
  obtain ⟨p, h', o, h1, h2, h3, h4, e, -⟩ := hk.2.2.2.2.2.1 k h
  have : prd s k = p := by unfold prd; rw [e]; exact cc_nI (by omega)
  rw [this]
  exact ⟨h1, h2, e⟩
def lcF (s : SV) : Nat → Nat
  | 0 => 1
  | k + 1 => Nat.lcm (lcF s k) (prd s k)
theorem lcF_pos {s : SV} (hk : sok s) : ∀ k, k ≤ s.nd → 0 < lcF s k ∧ lcF s k ≤ 60 ^ k
  | 0, _ => ⟨by unfold lcF; omega, by unfold lcF; omega⟩
  | k + 1, h => by
    obtain ⟨h1, h2⟩ := lcF_pos hk k (by omega)
    obtain ⟨p1, p2, -⟩ := prd_ok hk (show k < s.nd by omega)
    unfold lcF
    refine ⟨Nat.lcm_pos h1 (by omega), ?_⟩
    have hle : Nat.lcm (lcF s k) (prd s k) ≤ lcF s k * prd s k := Nat.div_le_self _ _
    rw [Nat.pow_succ]
    exact Nat.le_trans hle (Nat.mul_le_mul h2 p2)
theorem lcF_dvd {s : SV} {n : Nat} : ∀ {k}, lcF s k ∣ n ↔ ∀ j, j < k → prd s j ∣ n
  | 0 => ⟨fun _ j hj => absurd hj (Nat.not_lt_zero _), fun _ => by unfold lcF; exact Nat.one_dvd n⟩
  | k + 1 => by
    constructor
    · intro h j hj
      unfold lcF at h
      by_cases e : j = k
      · rw [e]; exact Nat.dvd_trans (Nat.dvd_lcm_right _ _) h
      · exact (lcF_dvd (k := k)).mp (Nat.dvd_trans (Nat.dvd_lcm_left _ _) h) j (by omega)
    · intro h
      unfold lcF
      exact Nat.lcm_dvd ((lcF_dvd (k := k)).mpr (fun j hj => h j (by omega))) (h k (by omega))
def fPeriod (s : SV) : Int32 := if lcF s s.nd ≤ 120 then nI (lcF s s.nd) else -2
theorem rem_nI {a b : Nat} (ha : a < 2 ^ 31) (h0 : 0 < b) (hb : b < 2 ^ 31) : rt_rem (nI a) (nI b) = nI (a % b) := pk_rem ha h0 hb
section
variable {G : rt_G} {d : Nat} {Q : rt_Q} {I : rt_I} {L : rt_L} {r B mg : Nat} {s : SV} {m : MO} {us : List MO} {kp : Nat → Option MO} {mk : MKT} {row : List Int32} {tx : TXT}
theorem wX8_allGoInto {n : Nat} {x : Int32} (hS : XZ s I) (hk : sok s) (hx : x = nI n) (hn : n < 1000) (h1 : lcF s s.nd ∣ n → Q 1 I L r) (h0 : ¬ lcF s s.nd ∣ n → Q 0 I L r) : rt_Call G (d + 1) kX8_allGoInto [.ref 3, .int x] I L r Q := by
  have h3 := hk.2.2.2.2.1
  subst hx
  refine v_X8_allGoInto _ _ _ _ (rt_loop (P := fun k => lcF s k ∣ n → rt_AW G (d + 1) kX8_allGoInto Q 2 [some (.ref 3), some (.int (nI n)), some (.int (nI k)), none] [] I L r) s.nd ?_ ?_ (Nat.one_dvd n))
  · intro h
    exact v_X8_allGoInto_2 _ _ _ _ _ ⟨fun _ => h1 h, fun z => absurd (by rw [hS.2.2.2.1]; exact Int32.le_refl _) z⟩
  · intro k hkn ih h
    obtain ⟨p1, p2, e⟩ := prd_ok hk hkn
    have e3 : nI k * (3 : Int32) = nI (k * 3) := n_ml k 3
    have e4 : I 4 (k * 3) = nI (prd s k) := (hS.2.2.2.2.1 (k * 3) (by omega)).trans e
    refine v_X8_allGoInto_2 _ _ _ _ _ ⟨fun z => absurd ((n_le hS.2.2.2.1 rfl (by omega) (by omega)).mp z) (by omega), fun _ => ⟨vp_nI e3 (by omega) (by omega), ?_⟩⟩
    rw [cl e3 (by omega), e4]
    have hne : ¬ nI (prd s k) = 0 := fun a => by
      have := (nI_eq (a := prd s k) (b := 0) (by omega) (by omega)).mp a
      omega
    refine ⟨fun z => absurd ((n_le (a := prd s k) (b := 0) rfl rfl (by omega) (by omega)).mp z) (by omega), fun _ => ⟨hne, ?_⟩⟩
    rw [rem_nI (by omega) (by omega) (by omega), nI_1]
    have hiff : nI (n % prd s k) = 0 ↔ prd s k ∣ n := by
      rw [show (0 : Int32) = nI 0 from rfl, nI_eq (by have := Nat.mod_lt n (show prd s k > 0 by omega); omega) (by omega)]
      exact (Nat.dvd_iff_mod_eq_zero).symm
    refine ⟨fun z => ih (Nat.lcm_dvd h (hiff.mp z)), fun z => h0 (fun a => z (hiff.mpr ((lcF_dvd.mp a) k hkn)))⟩
theorem fX_period (h : XI s m us kp mk row tx I) (hk : sok s)
    (hQ : ∀ M, XI s m us kp mk row tx M → (∀ c, 108 ≤ c → M c = I c) → Q (fPeriod s) M L r) : rt_Call G (d + 2) kX11_period [.ref 0] I L r Q := by
  have hQ' := hQ I h (fun _ _ => rfl)
  obtain ⟨hp, -⟩ := lcF_pos hk s.nd (Nat.le_refl _)
  unfold fPeriod at hQ'
  have key : ∀ g n, g + n = 121 → 1 ≤ n → n ≤ lcF s s.nd → rt_AW G (d + 2) kX11_period Q 2 [some (.ref 0), some (.int (nI n))] [] I L r := by
    intro g
    induction g with
    | zero =>
      intro n hg h1 hle
      rw [if_neg (by omega)] at hQ'
      exact v_X11_period_2 _ _ _ _ ⟨fun _ => hQ', fun z => absurd ((n_lt (a := 120) (b := n) rfl rfl (by omega) (by omega)).mpr (by omega)) z⟩
    | succ g ih =>
      intro n hg h1 hle
      refine v_X11_period_2 _ _ _ _ ⟨fun z => absurd ((n_lt (a := 120) (b := n) rfl rfl (by omega) (by omega)).mp z) (by omega), fun _ => wX8_allGoInto h.1 hk rfl (by omega) (fun hd => ⟨fun y => absurd y (by decide), fun _ => ?_⟩) (fun hd => ⟨fun _ => ?_, fun y => absurd rfl y⟩)⟩
      · have := Nat.le_of_dvd (by omega) hd
        have e : lcF s s.nd = n := by omega
        rw [if_pos (by omega), e] at hQ'
        exact hQ'
      · rw [nI_1]
        refine ih (n + 1) (by omega) (by omega) ?_
        by_cases e : n = lcF s s.nd
        · exact absurd (by rw [e]; exact Nat.dvd_refl _) hd
        · omega
  exact v_X11_period _ _ _ (key 120 1 (by omega) (by omega) (by omega))
theorem sX12_common : ∀ g e a b (x y : Int32) (Q : rt_Q), b < g → g ≤ e → a < 2 ^ 31 → b < 2 ^ 31 → x = nI a → y = nI b → Q (nI (Nat.gcd b a)) I L r → rt_Call G (e + 1) kX12_common [.int x, .int y] I L r Q := by
  intro g
  induction g with
  | zero => intro e a b x y Q h; exact absurd h (Nat.not_lt_zero _)
  | succ g ih =>
    intro e a b x y Q hb he ha hb2 e1 e2 hQ
    subst e1 e2
    obtain ⟨e, rfl⟩ : ∃ e', e = e' + 1 := ⟨e - 1, by omega⟩
    refine v_X12_common _ _ _ _ _ ⟨fun z => ⟨z, ?_⟩, fun z => ?_⟩
    · have hpos : 0 < b := by
        by_cases q : b = 0
        · rw [q] at z; exact absurd rfl z
        · omega
      rw [rem_nI ha hpos hb2]
      have hlt := Nat.mod_lt a hpos
      refine ih e b (a % b) _ _ _ (by omega) (by omega) hb2 (by omega) rfl rfl ?_
      rw [Nat.gcd_rec b a] at hQ
      exact hQ
    · have : b = 0 := (nI_eq (a := b) (b := 0) hb2 (by omega)).mp z
      rw [this, Nat.gcd_zero_left] at hQ
      exact hQ
theorem fM_period (h : MI B s m us kp mk row tx I) (hk : sok s)
    (hQ : ∀ M r', MI B s m us kp mk row tx M → Lo M I → M 108 14 = 0 → Q (fPeriod s) M L r') : rt_Call G (d + 70) kX12_period [.ref 108] I L r Q := by
  have h3 := hk.2.2.2.2.1
  have h0 := h.t0
  have hLJ : Lo (rt_u I 108 14 0) I := Lo.of u14F (by decide)
  have hQ' := hQ _ r h0 hLJ rt_u_at
  unfold fPeriod at hQ'
  have hb : ∀ k, k ≤ s.nd → 0 < lcF s k ∧ lcF s k < 300000 := by
    intro k hk2
    obtain ⟨h1, h2⟩ := lcF_pos hk k hk2
    have : (60 : Nat) ^ k ≤ 60 ^ 3 := Nat.pow_le_pow_right (by omega) (by omega)
    exact ⟨h1, by omega⟩
  refine v_X12_period _ _ _ (rt_loop (P := fun k => rt_AW G (d + 70) kX12_period Q 9 [some (.ref 108), some (.int (nI (lcF s k))), some (.int (nI k))] [] (rt_u I 108 14 0) L r) s.nd ?_ ?_)
  · refine v_X12_period_9 _ _ _ _ _ ⟨fun _ => ⟨fun z => ?_, fun z => ?_⟩, fun z => absurd (by rw [h0.1.2.2.2.1]; exact Int32.le_refl _) z⟩
    · rw [if_pos ((n_le (a := lcF s s.nd) (b := 120) rfl rfl (by have := hb s.nd (Nat.le_refl _); omega) (by omega)).mp z)] at hQ'
      exact hQ'
    · rw [if_neg (mt (n_le (a := lcF s s.nd) (b := 120) rfl rfl (by have := hb s.nd (Nat.le_refl _); omega) (by omega)).mpr z)] at hQ'
      exact hQ'
  · intro k hkn ih
    obtain ⟨p1, p2, e⟩ := prd_ok hk hkn
    obtain ⟨b1, b2⟩ := hb k (by omega)
    have e3 : (3 : Int32) * nI k = nI (k * 3) := by rw [Nat.mul_comm]; exact n_lm 3 k
    have e4 : rt_u I 108 14 0 113 (k * 3) = nI (prd s k) := (h0.1.2.2.2.2.1 (k * 3) (by omega)).trans e
    refine v_X12_period_9 _ _ _ _ _ ⟨fun z => absurd ((n_le h0.1.2.2.2.1 rfl (by omega) (by omega)).mp z) (by omega), fun _ => ⟨vp_nI e3 (by omega) (by omega), ?_⟩⟩
    rw [cl e3 (by omega), e4]
    refine sX12_common 61 (d + 68) (lcF s k) (prd s k) _ _ _ (by omega) (by omega) (by omega) (by omega) rfl rfl ?_
    rw [Nat.gcd_comm]
    have hg : 0 < Nat.gcd (lcF s k) (prd s k) := Nat.gcd_pos_of_pos_left _ b1
    have hgl : Nat.gcd (lcF s k) (prd s k) ≤ lcF s k := Nat.gcd_le_left _ b1
    refine ⟨fun a => ?_, vp_nI e3 (by omega) (by omega), ?_⟩
    · have := (nI_eq (a := Nat.gcd (lcF s k) (prd s k)) (b := 0) (by omega) (by omega)).mp a
      omega
    · have hlc : lcF s (k + 1) = lcF s k / Nat.gcd (lcF s k) (prd s k) * prd s k := by
        show Nat.lcm (lcF s k) (prd s k) = _
        unfold Nat.lcm
        rw [Nat.mul_comm, Nat.mul_div_assoc _ (Nat.gcd_dvd_left _ _), Nat.mul_comm]
      have e5 : nI (lcF s k) / nI (Nat.gcd (lcF s k) (prd s k)) = nI (lcF s k / Nat.gcd (lcF s k) (prd s k)) := pk_div (by omega) hg (by omega)
      have e6 : nI (lcF s k / Nat.gcd (lcF s k) (prd s k)) * nI (prd s k) = nI (lcF s k / Nat.gcd (lcF s k) (prd s k) * prd s k) := pk_mul _ _
      rw [e5, e4, e6, ← hlc, nI_1]
      exact ih
end
