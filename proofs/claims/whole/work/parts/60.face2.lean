/-! THE FACE: undo, keep, again, pass -/
section
variable {G : rt_G} {d : Nat} {Q : rt_Q} {I : rt_I} {L : rt_L} {r B : Nat} {s : SV} {m : MO} {us : List MO} {kp : Nat → Option MO} {mk : MKT} {row : List Int32} {tx : TXT}
/-- what a call of the class leaves when a moment is put back -/
theorem XI.back {m' : MO} {us' : List MO} {M : rt_I} (h : XI s m us kp mk row tx I) (hf : ∀ c, c ≠ 16 → c ≠ 17 → c ≠ 18 → c ≠ 19 → c ≠ 21 → M c = I c) (hM : XMr s m' M 16) (hU : XH s us' M) : XI s m' us' kp mk row tx M := by
  obtain ⟨h1, h2, h3, h4, h5, h6, h7⟩ := h
  have hg : ∀ c, (c < 16 ∨ 19 < c) → c ≠ 21 → M c = I c := fun c a b => hf c (by omega) (by omega) (by omega) (by omega) b
  exact ⟨h1.fr ⟨by rw [hg 12 (by omega) (by omega)], by rw [hg 12 (by omega) (by omega)]⟩ (hM.2.trans h1.2.2.1.symm) (by rw [hg 3 (by omega) (by omega)]) (hg 4 (by omega) (by omega)) (hg 13 (by omega) (by omega)) (hg 14 (by omega) (by omega)) (hg 15 (by omega) (by omega)) (by rw [hg 6 (by omega) (by omega)]) (hg 7 (by omega) (by omega)) (by rw [hg 20 (by omega) (by omega)]), hM.1, hU, h4.fr (hg 24 (by omega) (by omega)) (fun c a b => hg c (by omega) (by omega)), h5.fr (by rw [hg 38 (by omega) (by omega)]) (hg 39 (by omega) (by omega)) (hg 40 (by omega) (by omega)), h6.fr (hg 42 (by omega) (by omega)) (hg 43 (by omega) (by omega)), h7.fr (by rw [hg 1 (by omega) (by omega)]) (hg 2 (by omega) (by omega))⟩
def fUndo (m : MO) (us : List MO) : Int32 × MO × List MO := match us with
  | [] => (-1, m, [])
  | u :: us' => (nI us'.length, u, us')
theorem fX_undo (h : XI s m us kp mk row tx I) (hk : sok s)
    (hQ : ∀ M, XI s (fUndo m us).2.1 (fUndo m us).2.2 kp mk row tx M → (∀ c, 108 ≤ c → M c = I c) → Q (fUndo m us).1 M L r) : rt_Call G (d + 3) kX11_undo [.ref 0] I L r Q := by
  refine v_X11_undo _ _ _ (wX1_stepBack hk h.2.2.1 (fun e => ⟨fun _ => ?_, fun y => absurd rfl y⟩) (fun u us' e M hM hMr hU => ⟨fun y => absurd y (by decide), fun _ => ?_⟩))
  · subst e
    exact hQ I h (fun _ _ => rfl)
  · subst e
    have h2 := h.back hM hMr hU
    have e5 : M 21 5 = nI us'.length := by
      obtain ⟨-, f, -, -, e5, -⟩ := hU
      exact e5
    rw [e5]
    exact hQ M h2 (fun c hc => hM c (by omega) (by omega) (by omega) (by omega) (by omega))
theorem fM_undo (h : MI B s m us kp mk row tx I) (hk : sok s)
    (hQ : ∀ M r', MI B s (fUndo m us).2.1 (fUndo m us).2.2 kp mk row tx M → Lo M I → M 108 14 = 0 → Q (fUndo m us).1 M L r') : rt_Call G d kX12_undo [.ref 108] I L r Q := by
  refine wX12_undo hk h.2.2.1 (fun e M hF h8 h14 => ?_) (fun u us' e M hF h8 h14 hM hU => ?_)
  · subst e
    exact hQ M r (h.n hF h8) (Lo.of hF (by decide)) h14
  · subst e
    exact hQ M r (h.a (hF.mono (by decide)) (h8.mono (by decide)) ((h8 28 (by decide)).trans h.z28) hM hU) (Lo.of hF (by decide)) h14
theorem inb_f {x : Int32} {n : Nat} (hn : n < 1000) (h : ∀ i, i < n → x ≠ nI i) : inb x n = false := by
  cases hh : inb x n with
  | false => rfl
  | true =>
    obtain ⟨i, hi, e⟩ := (inr_iff hn).mp (inb_iff.mp hh)
    exact absurd e (h i hi)
def fKeep (m : MO) (kp : Nat → Option MO) (x : Int32) : Int32 × (Nat → Option MO) := if inb x 2 = true then (1, updK kp (cc x) (some m)) else (0, kp)
theorem fX_keep {x : Int32} (h : XI s m us kp mk row tx I) (hk : sok s)
    (hQ : ∀ M, XI s m us (fKeep m kp x).2 mk row tx M → (∀ c, 108 ≤ c → M c = I c) → Q (fKeep m kp x).1 M L r) : rt_Call G (d + 3) kX11_keep [.ref 0, .int x] I L r Q := by
  obtain ⟨h1, h2, h3, h4, h5, h6, h7⟩ := id h
  refine v_X11_keep _ _ _ _ (wX1_store hk h4 h2 h1.2.2.1 (fun z => ⟨Or.inl rfl, ?_⟩) (fun i hi e M hM hK => ⟨Or.inr rfl, ?_⟩))
  · unfold fKeep at hQ
    rw [if_neg (by rw [z]; decide)] at hQ
    exact hQ I h (fun _ _ => rfl)
  · subst e
    unfold fKeep at hQ
    rw [if_pos (inb_iff.mpr ((inr_iff (by omega)).mpr ⟨i, hi, rfl⟩)), cc_nI (by omega)] at hQ
    have hg : ∀ c, (c < 96 ∨ 103 < c) → c ≠ 24 → M c = I c := fun c a b => hM c b a
    exact hQ M ⟨h1.fr ⟨by rw [hg 12 (by omega) (by omega)], by rw [hg 12 (by omega) (by omega)]⟩ (by rw [hg 16 (by omega) (by omega)]) (by rw [hg 3 (by omega) (by omega)]) (hg 4 (by omega) (by omega)) (hg 13 (by omega) (by omega)) (hg 14 (by omega) (by omega)) (hg 15 (by omega) (by omega)) (by rw [hg 6 (by omega) (by omega)]) (hg 7 (by omega) (by omega)) (by rw [hg 20 (by omega) (by omega)]), h2.fr (by rw [hg 16 (by omega) (by omega)]) (hg 17 (by omega) (by omega)) (hg 18 (by omega) (by omega)) (hg 19 (by omega) (by omega)), h3.fr (hg 21 (by omega) (by omega)) (fun c a b => hg c (by omega) (by omega)), hK, h5.fr (by rw [hg 38 (by omega) (by omega)]) (hg 39 (by omega) (by omega)) (hg 40 (by omega) (by omega)), h6.fr (hg 42 (by omega) (by omega)) (hg 43 (by omega) (by omega)), h7.fr (by rw [hg 1 (by omega) (by omega)]) (hg 2 (by omega) (by omega))⟩ (fun c hc => hg c (by omega) (by omega))
theorem fM_keep {x : Int32} (h : MI B s m us kp mk row tx I) (hk : sok s)
    (hQ : ∀ M r', MI B s m us (fKeep m kp x).2 mk row tx M → Lo M I → M 108 14 = 0 → Q (fKeep m kp x).1 M L r') : rt_Call G (d + 1) kX12_keep [.ref 108, .int x] I L r Q := by
  obtain ⟨h1, h2, h3, h4, h5, h6, h7⟩ := id h
  refine wX12_keep hk h4 h2 (fun z M hF h8 h14 => ?_) (fun i hi e M hF h8 h14 hK => ?_)
  · unfold fKeep at hQ
    rw [if_neg (by rw [z]; decide)] at hQ
    exact hQ M r (h.n hF h8) (Lo.of hF (by decide)) h14
  · subst e
    unfold fKeep at hQ
    rw [if_pos (inb_iff.mpr ((inr_iff (by omega)).mpr ⟨i, hi, rfl⟩)), cc_nI (by omega)] at hQ
    exact hQ M r ⟨h1.fr (fun j hj => h8 j (fun z => by
      simp only [List.mem_cons, List.not_mem_nil, or_false] at hj z
      omega)) ((h8 28 (by decide)).trans h.z28) (hF 110 (by decide)) (hF 111 (by decide)) (hF 112 (by decide)) (hF 113 (by decide)) (hF 120 (by decide)), by rw [hF 109 (by decide)]; exact h2, h3.fr (h8 31 (by decide)) (hF 122 (by decide)), hK, h5.fr (h8 48 (by decide)) (hF 129 (by decide)), h6.fr (h8 13 (by decide)) (hF 115 (by decide)), h7.fr (h8 11 (by decide)) (hF 114 (by decide))⟩ (Lo.of hF (by decide)) h14
def fAgain (m : MO) (us : List MO) (kp : Nat → Option MO) (x : Int32) : Int32 × MO × List MO := if inb x 2 = true then (match kp (cc x) with
  | none => (0, m, us)
  | some u => (1, u, [])) else (0, m, us)
theorem fAgain_no {x : Int32} (h : ∀ i, i < 2 → x = nI i → kp i = none) : fAgain m us kp x = (0, m, us) := by
  unfold fAgain
  split
  · rename_i z
    obtain ⟨i, hi, rfl⟩ := (inr_iff (by omega)).mp (inb_iff.mp z)
    rw [cc_nI (by omega), h i hi rfl]
  · rfl
theorem fAgain_yes {x : Int32} {i : Nat} {u : MO} (hi : i < 2) (e : x = nI i) (h : kp i = some u) : fAgain m us kp x = (1, u, []) := by
  subst e
  unfold fAgain
  rw [if_pos (inb_iff.mpr ((inr_iff (by omega)).mpr ⟨i, hi, rfl⟩)), cc_nI (by omega), h]
theorem fX_again {x : Int32} (h : XI s m us kp mk row tx I) (hk : sok s)
    (hQ : ∀ M, XI s (fAgain m us kp x).2.1 (fAgain m us kp x).2.2 kp mk row tx M → (∀ c, 108 ≤ c → M c = I c) → Q (fAgain m us kp x).1 M L r) : rt_Call G (d + 3) kX11_again [.ref 0, .int x] I L r Q := by
  obtain ⟨h1, h2, h3, h4, h5, h6, h7⟩ := id h
  refine v_X11_again _ _ _ _ (wX1_restore hk h4 h3 (fun z => ⟨Or.inl rfl, ?_⟩) (fun i u hi e hu M hM hMr hU => ⟨Or.inr rfl, ?_⟩))
  · rw [fAgain_no z] at hQ
    exact hQ I h (fun _ _ => rfl)
  · rw [fAgain_yes hi e hu] at hQ
    exact hQ M (h.back hM hMr hU) (fun c hc => hM c (by omega) (by omega) (by omega) (by omega) (by omega))
theorem fM_again {x : Int32} (h : MI B s m us kp mk row tx I) (hk : sok s) (hB : B < 2 ^ 28)
    (hQ : ∀ M r', MI B s (fAgain m us kp x).2.1 (fAgain m us kp x).2.2 kp mk row tx M → Lo M I → M 108 14 = 0 → Q (fAgain m us kp x).1 M L r') : rt_Call G (d + 1) kX12_again [.ref 108, .int x] I L r Q := by
  obtain ⟨h1, h2, h3, h4, h5, h6, h7⟩ := id h
  refine wX12_again hk h4 (by omega) h3 (fun z M hF h8 h14 => ?_) (fun i u hi e hu M hF h8 h14 hM hU => ?_)
  · rw [fAgain_no z] at hQ
    exact hQ M r (h.n hF h8) (Lo.of hF (by decide)) h14
  · rw [fAgain_yes hi e hu] at hQ
    exact hQ M r (h.a (hF.mono (by decide)) (h8.mono (by decide)) ((h8 28 (by decide)).trans h.z28) hM hU) (Lo.of hF (by decide)) h14
/-! pass -/
theorem btn_not {b : Nat → Bool} : ∀ n, btn (fun c => !b c) n + btn b n + 1 = 2 ^ n
  | 0 => rfl
  | n + 1 => by
    have ih := btn_not (b := b) n
    have h1 := btn_lt (b := b) n
    have h2 := btn_lt (b := fun c => !b c) n
    have hor : ∀ x, x < 2 ^ n → x ||| 2 ^ n = x + 2 ^ n := fun x hx => by
      have := Nat.two_pow_add_eq_or_of_lt hx 1
      rw [Nat.mul_one] at this
      rw [Nat.or_comm, ← this, Nat.add_comm]
    rw [Nat.pow_succ]
    have e1 : btn (fun c => !b c) (n + 1) = if b n = true then btn (fun c => !b c) n else btn (fun c => !b c) n + 2 ^ n := by
      show (if (!b n) = true then _ else _) = _
      cases b n with
      | true => rfl
      | false => exact hor _ h2
    have e2 : btn b (n + 1) = if b n = true then btn b n + 2 ^ n else btn b n := by
      show (if b n = true then btn b n ||| 2 ^ n else btn b n) = _
      cases b n with
      | true => exact hor _ h1
      | false => rfl
    rw [e1, e2]
    split <;> omega
theorem cut_dec : ∀ n : Fin 6, ∀ k : Fin 32, k.val < 2 ^ n.val → (((1 : Int32) <<< (nI n.val &&& 31)) - 1) &&& (nI k.val ^^^ (-1)) = nI (2 ^ n.val - 1 - k.val) := by decide +kernel
theorem cut_eq {b : Nat → Bool} {n : Nat} (hn : n ≤ 5) : (((1 : Int32) <<< (nI n &&& 31)) - 1) &&& (bts b n ^^^ (-1)) = bts (fun c => !b c) n := by
  have h1 := btn_lt (b := b) n
  have h3 : (2 : Nat) ^ n ≤ 2 ^ 5 := Nat.pow_le_pow_right (by omega) hn
  rw [bts_n (by omega), bts_n (by omega), cut_dec ⟨n, by omega⟩ ⟨btn b n, by omega⟩ h1]
  have := btn_not (b := b) n
  congr 1
  dsimp only
  omega
def cutb (s : SV) (m : MO) : Int32 := bts (fun c => decide (¬ m (c * 8 + 6) = 0)) s.nc
def pRow (s : SV) (m : MO) (n : Nat) : List Int32 := [aC s m n, cutb s (tns s m n), aW s m n]
/-- pass: what it answers, the moment, what can be undone, the row -/
def fPass (s : SV) (m : MO) (us : List MO) (row : List Int32) (x : Int32) : Int32 × MO × List MO × List Int32 :=
  if inb x 100 = true then (nI (aN s m (cc x)), tns s m (cc x), if cc x = 0 then us else (m :: us).take 12, pRow s m (cc x)) else (-1, m, us, row)
theorem cut_n (hm : mok s B m) (hB : B < 2 ^ 28) {c : Nat} (hc : c < s.nc) : ∃ k, k < 2 ^ 31 ∧ m (c * 8 + 6) = nI k := by
  obtain ⟨t, ht, e, hco⟩ := hm.1
  rcases (hco c hc).2 with ⟨p, hp, e0, e1, e2, e3, e6, e7⟩ | ⟨e0, -, -, ⟨k, hk6, e6⟩, -⟩
  · exact ⟨0, by omega, e6⟩
  · exact ⟨k, by omega, e6⟩
theorem cutX (hk : sok s) (hm : mok s B m) (hB : B < 2 ^ 28) (hM : XMo s m I 16) : bts (fun c => decide (0 < I 17 (c * 8 + 6))) s.nc = cutb s m := by
  refine bts_congr (fun c hc => ?_)
  rw [xm_c hk hM hc (by omega)]
  obtain ⟨k, hk2, e⟩ := cut_n hm hB hc
  rw [e]
  refine decide_eq_decide.mpr ⟨fun z q => ?_, fun z => ?_⟩
  · rw [q] at z; exact absurd z (by decide)
  · refine (n_lt (a := 0) (b := k) rfl rfl (by omega) hk2).mpr ?_
    rcases Nat.eq_zero_or_pos k with h | h
    · subst h; exact absurd rfl z
    · exact h
theorem cutM (hk : sok s) (hM : MMo s m (I 109)) : (((1 : Int32) <<< (nI s.nc &&& 31)) - 1) &&& (bts (fun c => decide (I 109 (c * 8 + 6) = 0)) s.nc ^^^ (-1)) = cutb s m := by
  rw [cut_eq hk.2.2.1]
  unfold cutb
  refine bts_congr (fun c hc => ?_)
  rw [mm_c hM hc (by omega)]
  exact (decide_not).symm
/-- a call of the class under way: the moment ahead of it is laid aside -/
def XIp (s : SV) (m0 m : MO) (us : List MO) (kp : Nat → Option MO) (mk : MKT) (row : List Int32) (tx : TXT) (I : rt_I) : Prop :=
  XZ s I ∧ XMo s m I 16 ∧ XP s us m0 I ∧ XK s kp I ∧ XMk mk I ∧ XRw row I ∧ XTx tx I
theorem XIp.H {m0 : MO} (h : XIp s m0 m us kp mk row tx I) : XI s m us kp mk row tx I := ⟨h.1, h.2.1, h.2.2.1.H, h.2.2.2⟩
theorem XIp.c {m0 m' : MO} {M : rt_I} (h : XIp s m0 m us kp mk row tx I) (hC : CF M I) (hM : XMo s m' M 16) : XIp s m0 m' us kp mk row tx M := by
  obtain ⟨h1, h2, h3, h4, h5, h6, h7⟩ := h
  have hC2 : ∀ c, 21 ≤ c → M c = I c := fun c hc => hC.1 c (fun z => by simp only [List.mem_cons, List.not_mem_nil, or_false] at z; omega)
  exact ⟨hC.S h1, hM, h3.fr (hC2 21 (by omega)) (fun c a b => hC2 c (by omega)), h4.fr (hC2 24 (by omega)) (fun c a b => hC2 c (by omega)), h5.fr (by rw [hC2 38 (by omega)]) (hC2 39 (by omega)) (hC2 40 (by omega)), h6.fr (hC2 42 (by omega)) (hC2 43 (by omega)), h7.fr (by rw [hC.1 1 (by decide)]) (hC.1 2 (by decide))⟩
theorem fX_prep (h : XI s m us kp mk row tx I) (hk : sok s) (hQ : ∀ M, XIp s m m us kp mk row tx M → (∀ c, c < 44 ∨ 95 < c → M c = I c) → Q 0 M L r) : rt_Call G (d + 2) kX1_prepare [.ref 21, .ref 16] I L r Q := by
  obtain ⟨h1, h2, h3, h4, h5, h6, h7⟩ := h
  refine wX1_prepare hk h3 h2 h1.2.2.1 (fun M hM hP => hQ M ⟨?_, h2.fr (by rw [hM 16 (by omega)]) (hM 17 (by omega)) (hM 18 (by omega)) (hM 19 (by omega)), hP, h4.fr (hM 24 (by omega)) (fun c a b => hM c (by omega)), h5.fr (by rw [hM 38 (by omega)]) (hM 39 (by omega)) (hM 40 (by omega)), h6.fr (hM 42 (by omega)) (hM 43 (by omega)), h7.fr (by rw [hM 1 (by omega)]) (hM 2 (by omega))⟩ hM)
  exact h1.fr ⟨by rw [hM 12 (by omega)], by rw [hM 12 (by omega)]⟩ (by rw [hM 16 (by omega)]) (by rw [hM 3 (by omega)]) (hM 4 (by omega)) (hM 13 (by omega)) (hM 14 (by omega)) (hM 15 (by omega)) (by rw [hM 6 (by omega)]) (hM 7 (by omega)) (by rw [hM 20 (by omega)])
theorem fX_kept {m0 : MO} {v : Int32} (hv : ¬ v < 0) (h : XIp s m0 m us kp mk row tx I) (hQ : ∀ M, XI s m ((m0 :: us).take 12) kp mk row tx M → (∀ c, c ≠ 21 → M c = I c) → Q v M L r) : rt_Call G (d + 1) kX1_keepIfDone [.ref 21, .int v] I L r Q := by
  obtain ⟨h1, h2, h3, h4, h5, h6, h7⟩ := h
  refine wX1_keepIfDone h3 (fun z => absurd z hv) (fun z M hM hH => hQ M ⟨?_, h2.fr (by rw [hM 16 (by omega)]) (hM 17 (by omega)) (hM 18 (by omega)) (hM 19 (by omega)), hH, h4.fr (hM 24 (by omega)) (fun c a b => hM c (by omega)), h5.fr (by rw [hM 38 (by omega)]) (hM 39 (by omega)) (hM 40 (by omega)), h6.fr (hM 42 (by omega)) (hM 43 (by omega)), h7.fr (by rw [hM 1 (by omega)]) (hM 2 (by omega))⟩ hM)
  exact h1.fr ⟨by rw [hM 12 (by omega)], by rw [hM 12 (by omega)]⟩ (by rw [hM 16 (by omega)]) (by rw [hM 3 (by omega)]) (hM 4 (by omega)) (hM 13 (by omega)) (hM 14 (by omega)) (hM 15 (by omega)) (by rw [hM 6 (by omega)]) (hM 7 (by omega)) (by rw [hM 20 (by omega)])
theorem XI.rw {row' : List Int32} {M : rt_I} (h : XI s m us kp mk row tx I) (hf : Fr M I [42, 43]) (hr : XRw row' M) : XI s m us kp mk row' tx M :=
  h.q (hf.mono (by decide)) (by rw [hf 20 (by decide)]) (by rw [hf 38 (by decide)]) hr
theorem MI.rw {row' : List Int32} {M : rt_I} (h : MI B s m us kp mk row tx I) (hf : Fr M I [108, 115]) (h8 : F8 M I [13]) (hr : MRw row' M) : MI B s m us kp mk row' tx M :=
  h.q (hf.mono (by decide)) (h8.mono (by decide)) ((h8 28 (by decide)).trans h.z28) hr
theorem inb100 {x : Int32} {k : Nat} (hk : k < 900) : (¬ x < 0 ∧ x ≤ nI k) ↔ inb x (k + 1) = true := by
  rw [inb_iff]
  constructor
  · rintro ⟨a, b⟩
    obtain ⟨j, hj, rfl⟩ := nI_of a
    have hb2 := (nI_leI hj (by omega)).mp b
    exact (inr_iff (by omega)).mpr ⟨j, by omega, rfl⟩
  · intro h
    obtain ⟨j, hj, rfl⟩ := (inr_iff (by omega)).mp h
    exact ⟨n_neg (by omega), nI_le (by omega) (by omega)⟩
theorem fX_pass {x : Int32} (h : XI s m us kp mk row tx I) (hk : sok s) (hm : mok s B m) (hB : B < 2 ^ 28 - 200)
    (hQ : ∀ M, XI s (fPass s m us row x).2.1 (fPass s m us row x).2.2.1 kp mk (fPass s m us row x).2.2.2 tx M → (∀ c, 108 ≤ c → M c = I c) → Q (fPass s m us row x).1 M L r) : rt_Call G (d + 5) kX11_pass [.ref 0, .int x] I L r Q := by
  have hno : inb x 100 = false → Q (-1) I L r := by
    intro z
    unfold fPass at hQ
    rw [if_neg (by rw [z]; decide)] at hQ
    exact hQ I h (fun _ _ => rfl)
  have hib : ¬ (¬ x < 0 ∧ x ≤ 99) → inb x 100 = false := by
    intro z
    cases hh : inb x 100 with
    | false => rfl
    | true => exact absurd ((inb100 (k := 99) (by omega)).mpr hh) z
  refine v_X11_pass _ _ _ _ ⟨fun z => hno (hib (fun q => q.1 z)), fun z => ⟨fun z2 => ?_, fun z2 => hno (hib (fun q => z2 q.2))⟩⟩
  have hyes : inb x 100 = true := (inb100 (k := 99) (by omega)).mp ⟨z, z2⟩
  obtain ⟨n, hn, rfl⟩ := (inr_iff (by omega)).mp (inb_iff.mp hyes)
  unfold fPass at hQ
  rw [if_pos hyes, cc_nI (by omega)] at hQ
  dsimp only at hQ
  have hm2 := tns_ok hk hm n
  refine fX_prep h hk (fun M hP hM => ?_)
  refine wX9_goBy hP.1 hk hP.2.1 hm (by omega) rfl (fun M2 hG hMo h5 h6 => ?_)
  have hP2 := hP.c hG.C hMo
  have hM2 : ∀ c, 108 ≤ c → M2 c = I c := fun c hc => (hG.1.hi (by decide) c hc).trans (hM c (by omega))
  have fin : ∀ M3, XI s (tns s m n) (if n = 0 then us else (m :: us).take 12) kp mk row tx M3 → M3 20 = M2 20 → (∀ c, 108 ≤ c → M3 c = I c) → rt_Call G (d + 4) kX5_clear [.ref 42] M3 L r (fun v3 I3 L3 r3 => rt_Call G (d + 4) kX5_add [.ref 42, .int (I3 20 5)] I3 L3 r3 (fun v4 I4 L4 r4 => rt_Call G (d + 4) kX4_cartsCut [.ref 16] I4 L4 r4 (fun v5 I5 L5 r5 => rt_Call G (d + 4) kX5_add [.ref 42, .int v5] I5 L5 r5 (fun v6 I6 L6 r6 => rt_Call G (d + 4) kX5_add [.ref 42, .int (I6 20 6)] I6 L6 r6 (fun v7 I7 L7 r7 => Q (nI (aN s m n)) I7 L7 r7))))) := by
    intro M3 h3 h20 hhi
    refine wX5_clear (fun M4 hF4 hR4 => wX5_add hR4 (by simp) (fun M5 hF5 hR5 => ?_))
    have hF5' : Fr M5 M3 [42, 43] := hF5.trans (hF4.mono (by decide))
    have h5' := h3.rw hF5' hR5
    refine sX4_cartsCut h5'.1.2.2.1 hk.2.2.1 ?_
    rw [cutX hk hm2 (by omega) h5'.2.1]
    refine wX5_add hR5 (by simp) (fun M6 hF6 hR6 => wX5_add hR6 (by simp) (fun M7 hF7 hR7 => ?_))
    have hF7' : Fr M7 M3 [42, 43] := hF7.trans (hF6.trans hF5')
    have h7 := h3.rw hF7' hR7
    refine hQ M7 ?_ (fun c hc => (hF7'.hi (by decide) c hc).trans (hhi c hc))
    have e1 : M4 20 5 = aC s m n := by rw [hF4 20 (by decide), h20, h5]
    have e2 : M6 20 6 = aW s m n := by rw [hF6 20 (by decide), hF5' 20 (by decide), h20, h6]
    rw [e1, e2] at h7
    exact h7
  refine ⟨fun q => ?_, fun q => ?_⟩
  · have hn0 : n = 0 := by
      have := (n_le (a := n) (b := 0) rfl rfl (by omega) (by omega)).mp q
      omega
    refine fin M2 ?_ rfl hM2
    rw [if_pos hn0]
    exact hP2.H
  · have hn0 : ¬ n = 0 := fun e => q (by rw [e]; decide)
    refine fX_kept (by decide) hP2 (fun M3 h3 hM3 => fin M3 ?_ (hM3 20 (by omega)) (fun c hc => (hM3 c (by omega)).trans (hM2 c hc)))
    rw [if_neg hn0]
    exact h3
theorem fM_pass {x : Int32} (h : MI B s m us kp mk row tx I) (hk : sok s) (hm : mok s B m) (hB : B < 2 ^ 28 - 200)
    (hQ : ∀ M r', MI B s (fPass s m us row x).2.1 (fPass s m us row x).2.2.1 kp mk (fPass s m us row x).2.2.2 tx M → Lo M I → M 108 14 = 0 → Q (fPass s m us row x).1 M L r') : rt_Call G (d + 5) kX12_pass [.ref 108, .int x] I L r Q := by
  have h0 := h.t0
  have hl0 : Lo (rt_u I 108 14 0) I := Lo.of u14F (by decide)
  have hib : (¬ x < 0 ∧ ¬ 99 < x) ↔ inb x 100 = true := by
    rw [← inb100 (k := 99) (by omega)]
    exact ⟨fun q => ⟨q.1, Int32.not_lt.mp q.2⟩, fun q => ⟨q.1, Int32.not_lt.mpr q.2⟩⟩
  refine v_X12_pass _ _ _ _ (sX12_in (fun z => ⟨fun _ => ?_, fun y => absurd y (by decide)⟩) (fun z => ⟨fun y => absurd rfl y, fun _ => ?_⟩))
  · have hyes := hib.mp z
    obtain ⟨n, hn, rfl⟩ := (inr_iff (by omega)).mp (inb_iff.mp hyes)
    unfold fPass at hQ
    rw [if_pos hyes, cc_nI (by omega)] at hQ
    dsimp only at hQ
    have fin : ∀ M1 r1, MI B s m (if n = 0 then us else (m :: us).take 12) kp mk row tx M1 → M1 108 14 = 0 → Lo M1 I → rt_Call G (d + 4) kX12_beginTurns [.ref 108] M1 L r1 (fun v2 I2 L2 r2 => rt_Call G (d + 4) kX12_goTurns [.ref 108, .ref 109, .int (nI n)] I2 L2 r2 (fun v3 I3 L3 r3 => rt_Call G (d + 4) kX12_tell [.ref 108, .int (I3 108 36)] (rt_u I3 108 13 0) L3 r3 (fun v4 I4 L4 r4 => rt_Call G (d + 4) kX12_cartsAt [.ref 108, .int 6, .int 0] I4 L4 r4 (fun v5 I5 L5 r5 => rt_Call G (d + 4) kX12_tell [.ref 108, .int ((((1 : Int32) <<< ((I4 108 6) &&& 31)) - 1) &&& (v5 ^^^ (-1)))] I5 L5 r5 (fun v6 I6 L6 r6 => rt_Call G (d + 4) kX12_tell [.ref 108, .int (I6 108 37)] I6 L6 r6 (fun v7 I7 L7 r7 => Q (I7 108 35) I7 L7 r7)))))) := by
      intro M1 r1 h1 h14 hLo
      refine v_X12_beginTurns _ _ _ ?_
      generalize hJ : rt_u (rt_u (rt_u M1 108 35 0) 108 36 0) 108 37 0 = J
      have hFJ : Fr J M1 [108] := by rw [← hJ]; exact (((Fr.refl _ _).u (by decide)).u (by decide)).u (by decide)
      have h8J : F8 J M1 [35, 36, 37] := by rw [← hJ]; exact (((F8.refl _ _).u (fun _ => by decide)).u (fun _ => by decide)).u (fun _ => by decide)
      have e35 : J 108 35 = 0 := by rw [← hJ]; rfl
      have e36 : J 108 36 = 0 := by rw [← hJ]; rfl
      have e37 : J 108 37 = 0 := by rw [← hJ]; rfl
      have hJ' := h1.a (us' := if n = 0 then us else (m :: us).take 12) (hFJ.mono (by decide)) (h8J.mono (by decide)) ((h8J 28 (by decide)).trans h1.z28) (by rw [hFJ 109 (by decide)]; exact h1.2.1) (h1.2.2.1.fr (h8J 31 (by decide)) (hFJ 122 (by decide)))
      refine wX12_goTurns_now hJ'.1 hk hJ'.2.1 hm (by omega) rfl (fun M2 hN hMo g35 g36 g37 => ?_)
      rw [e35, Int32.zero_add] at g35
      rw [e36, Int32.zero_or] at g36
      rw [e37, Int32.zero_or] at g37
      have h2 := hJ'.a (us' := if n = 0 then us else (m :: us).take 12) (hN.1.mono (by decide)) (hN.2.1.mono (by decide)) (hN.2.2.trans hJ'.z28) hMo (hJ'.2.2.1.fr (hN.2.1 31 (by decide)) (hN.1 122 (by decide)))
      have hFc : Fr (rt_u M2 108 13 0) M2 [108, 115] := (Fr.refl _ _).u (by decide)
      have h8c : F8 (rt_u M2 108 13 0) M2 [13] := (F8.refl _ _).u (fun _ => by decide)
      refine wX12_tell MRw.clear (by simp) (fun M3 hF3 h83 hR3 => ?_)
      have hF3' := hF3.trans hFc
      have h83' := h83.trans h8c
      have h3 := h2.rw hF3' h83' hR3
      refine sX12_cartsAt (j := 6) rfl h3.1.2.2.1 hk.2.2.1 (by omega) ?_
      rw [h3.1.2.2.1, cutM hk h3.2.1]
      refine wX12_tell hR3 (by simp) (fun M4 hF4 h84 hR4 => wX12_tell hR4 (by simp) (fun M5 hF5 h85 hR5 => ?_))
      have hF5' := hF5.trans (hF4.trans hF3')
      have h85' := h85.trans (h84.trans h83')
      have h5 := h2.rw hF5' h85' hR5
      have e4 : M4 108 37 = aW s m n := by rw [h84 37 (by decide), h83' 37 (by decide), g37]
      have e5 : M5 108 35 = nI (aN s m n) := by rw [h85' 35 (by decide), g35]
      rw [g36, e4] at h5
      rw [e5]
      refine hQ M5 _ h5 ((Lo.of hF5' (by decide)).trans ((Lo.of hN.1 (by decide)).trans ((Lo.of hFJ (by decide)).trans hLo))) ?_
      rw [h85' 14 (by decide), hN.2.1 14 (by decide), h8J 14 (by decide), h14]
    refine ⟨fun q => ?_, fun q => ?_⟩
    · have hn0 : n = 0 := by
        have := (n_le (a := n) (b := 0) rfl rfl (by omega) (by omega)).mp q
        omega
      refine fin _ _ ?_ rt_u_at hl0
      rw [if_pos hn0]
      exact h0
    · have hn0 : ¬ n = 0 := fun e => q (by rw [e]; decide)
      refine wX12_remember_now hk h0.2.2.1 h0.2.1 (fun M hF h8 hH => fin M _ ?_ ?_ ((Lo.of hF (by decide)).trans hl0))
      · rw [if_neg hn0]
        exact h0.a (hF.mono (by decide)) (h8.mono (by decide)) ((h8 28 (by decide)).trans h0.z28) (by rw [hF 109 (by decide)]; exact h0.2.1) hH
      · rw [h8 14 (by decide)]; exact rt_u_at
  · have hn : inb x 100 = false := by
      cases hh : inb x 100 with
      | false => rfl
      | true => exact absurd (hib.mpr hh) z
    unfold fPass at hQ
    rw [if_neg (by rw [hn]; decide)] at hQ
    exact hQ _ _ h0 hl0 rt_u_at
end
