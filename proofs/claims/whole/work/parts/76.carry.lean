/-! THE FACE: the carrier's round, class -/
/-- the set without q -/
def clr (sh q : Nat) : Nat := if sh.testBit q = true then sh - 2 ^ q else sh
theorem clr_dec : ∀ sh : Fin 256, ∀ q : Fin 8, nI sh.val &&& (((1 : Int32) <<< (nI q.val &&& 31)) ^^^ (-1)) = nI (clr sh.val q.val) := by decide +kernel
theorem clr_tb : ∀ sh : Fin 256, ∀ q i : Fin 8, (clr sh.val q.val).testBit i.val = (sh.val.testBit i.val && decide (i ≠ q)) := by decide +kernel
theorem clr_le (sh q : Nat) : clr sh q ≤ sh := by
  unfold clr
  split
  · exact Nat.sub_le _ _
  · exact Nat.le_refl _
def cnt (sh : Nat) : Nat := cb (fun q => sh.testBit q) 8
theorem cnt_clr {sh q : Nat} (h : sh < 256) (hq : q < 8) (hb : sh.testBit q = true) : cnt (clr sh q) + 1 = cnt sh := by
  have key : ∀ n, n ≤ 8 → cb (fun i => sh.testBit i) n = cb (fun i => (clr sh q).testBit i) n + if q < n then 1 else 0 := by
    intro n
    induction n with
    | zero => intro _; rfl
    | succ n ih =>
      intro hn
      have h1 := clr_tb ⟨sh, h⟩ ⟨q, hq⟩ ⟨n, by omega⟩
      dsimp only at h1
      rw [cb_s, cb_s, ih (by omega), h1]
      by_cases e : n = q
      · subst e
        rw [hb]
        simp
      · rw [show decide ((⟨n, by omega⟩ : Fin 8) ≠ ⟨q, hq⟩) = true by simpa using e, Bool.and_true]
        by_cases e2 : sh.testBit n = true
        · rw [if_pos e2, if_pos e2]
          split <;> split <;> omega
        · rw [if_neg e2, if_neg e2]
          split <;> split <;> omega
  have := key 8 (Nat.le_refl _)
  rw [if_pos hq] at this
  exact this.symm
theorem cnt_z {sh : Nat} (h : sh < 256) (h0 : cnt sh = 0) : sh = 0 := by
  have hd : ∀ sh : Fin 256, cnt sh.val = 0 → sh.val = 0 := by decide +kernel
  exact hd ⟨sh, h⟩ h0
theorem msk_dec : ∀ n : Fin 9, ((1 : Int32) <<< (nI n.val &&& 31)) - 1 = nI (2 ^ n.val - 1) := by decide +kernel
theorem set_dec : ∀ n : Fin 9, ∀ k : Fin 256, k.val < 2 ^ n.val → nI k.val &&& (nI (2 ^ n.val - 1) ^^^ (-1)) = 0 := by decide +kernel
theorem msk_bt : ∀ n : Fin 9, ∀ i : Fin 32, n.val ≤ i.val → bt (nI (2 ^ n.val - 1) ^^^ (-1)) i.val = true := by decide +kernel
theorem set_cls {x : Int32} {n : Nat} (hn : n ≤ 8) : (x &&& ((((1 : Int32) <<< (nI n &&& 31)) - 1) ^^^ (-1))) = 0 ↔ inb x (2 ^ n) = true := by
  have hp : (2 : Nat) ^ n ≤ 2 ^ 8 := Nat.pow_le_pow_right (by omega) hn
  rw [msk_dec ⟨n, by omega⟩]
  constructor
  · intro h
    refine inb_iff.mpr ((inr_iff (by omega)).mpr ⟨x.toBitVec.toNat, ?_, ?_⟩)
    · refine Nat.lt_pow_two_of_testBit _ (fun i hi => ?_)
      rcases Nat.lt_or_ge i 32 with z | z
      · have h1 := congrArg (fun y => bt y i) h
        dsimp only at h1
        rw [b_and, msk_bt ⟨n, by omega⟩ ⟨i, z⟩ hi, Bool.and_true, b_0] at h1
        exact h1
      · exact b_big z
    · apply Int32.toBitVec_inj.1
      show x.toBitVec = BitVec.ofNat 32 x.toBitVec.toNat
      rw [BitVec.ofNat_toNat, BitVec.setWidth_eq]
  · intro h
    obtain ⟨k, hk, rfl⟩ := (inr_iff (by omega)).mp (inb_iff.mp h)
    exact set_dec ⟨n, by omega⟩ ⟨k, by omega⟩ hk
/-- f over those below k, from the lowest -/
def fdN {α : Type} (f : Nat → α → α) : Nat → α → α
  | 0, b => b
  | k + 1, b => f k (fdN f k b)
noncomputable def cF (s : SV) (m : MO) (h : Nat) : Nat → Nat → Nat → Nat → Nat → (Nat → Nat) → Nat × (Nat → Nat) → Nat × (Nat → Nat)
  | 0, p, t, _, _, pre, b => if Ds s m 0 0 p t h < b.1 then (Ds s m 0 0 p t h, pre) else b
  | g + 1, p, t, sh, dp, pre, b => fdN (fun q b => if (sh.testBit q && decide (Ds s m 0 0 p t q ≤ 120)) = true then cF s m h g q (Ds s m 0 0 p t q) (clr sh q) (dp + 1) (updN pre dp q) b else b) s.np b
theorem cF_ge {s : SV} {m : MO} {B h : Nat} (hk : sok s) (hm : mok s B m) : ∀ g p t sh dp pre b, t ≤ FR → b.1 ≤ t → cF s m h g p t sh dp pre b = b := by
  have hFR : FR = 1000000 := rfl
  intro g
  induction g with
  | zero =>
    intro p t sh dp pre b ht hb
    have hge := SPd.ge (nar_ok s m 0) ht (Ds_sp hk hm 0 0 p ht) h
    unfold cF
    rw [if_neg (by omega)]
  | succ g ih =>
    intro p t sh dp pre b ht hb
    unfold cF
    have key : ∀ k, fdN (fun q b => if (sh.testBit q && decide (Ds s m 0 0 p t q ≤ 120)) = true then cF s m h g q (Ds s m 0 0 p t q) (clr sh q) (dp + 1) (updN pre dp q) b else b) k b = b := by
      intro k
      induction k with
      | zero => rfl
      | succ k ihk =>
        unfold fdN
        rw [ihk]
        split
        · have hge := SPd.ge (nar_ok s m 0) ht (Ds_sp hk hm 0 0 p ht) k
          exact ih _ _ _ _ _ _ (Ds_le hk hm 0 0 p ht k) (by omega)
        · rfl
    exact key s.np
theorem cF_le {s : SV} {m : MO} {B h : Nat} (hk : sok s) (hm : mok s B m) : ∀ g p t sh dp pre b, (cF s m h g p t sh dp pre b).1 ≤ b.1 := by
  intro g
  induction g with
  | zero =>
    intro p t sh dp pre b
    unfold cF
    split
    · dsimp only; omega
    · exact Nat.le_refl _
  | succ g ih =>
    intro p t sh dp pre b
    unfold cF
    have key : ∀ k, (fdN (fun q b => if (sh.testBit q && decide (Ds s m 0 0 p t q ≤ 120)) = true then cF s m h g q (Ds s m 0 0 p t q) (clr sh q) (dp + 1) (updN pre dp q) b else b) k b).1 ≤ b.1 := by
      intro k
      induction k with
      | zero => exact Nat.le_refl _
      | succ k ihk =>
        unfold fdN
        split
        · exact Nat.le_trans (ih _ _ _ _ _ _) ihk
        · exact ihk
    exact key s.np
def rowN (f : Nat → Int32) : Nat → List Int32
  | 0 => []
  | k + 1 => rowN f k ++ [f k]
theorem rowN_len (f : Nat → Int32) : ∀ k, (rowN f k).length = k
  | 0 => rfl
  | k + 1 => by unfold rowN; rw [List.length_append, rowN_len f k]; rfl
noncomputable def fCarrier (s : SV) (m : MO) (row : List Int32) (x y : Int32) : Int32 × List Int32 :=
  if inb x s.np = true ∧ inb y (2 ^ s.np) = true then
    if cnt (clr (cc y) (cc x)) ≤ 6 then
      if (cF s m (cc x) (cnt (clr (cc y) (cc x))) (cc x) 0 (clr (cc y) (cc x)) 0 (fun _ => 0) (FR, fun _ => 0)).1 ≤ 120 then
        (nI (cF s m (cc x) (cnt (clr (cc y) (cc x))) (cc x) 0 (clr (cc y) (cc x)) 0 (fun _ => 0) (FR, fun _ => 0)).1, rowN (fun i => nI ((cF s m (cc x) (cnt (clr (cc y) (cc x))) (cc x) 0 (clr (cc y) (cc x)) 0 (fun _ => 0) (FR, fun _ => 0)).2 i)) (cnt (clr (cc y) (cc x))))
      else (-2, row)
    else (-3, row)
  else (-1, row)
section
variable {G : rt_G} {d : Nat} {Q : rt_Q} {I : rt_I} {L : rt_L} {r B mg : Nat} {s : SV} {m : MO} {us : List MO} {kp : Nat → Option MO} {mk : MKT} {row : List Int32} {tx : TXT}
def CBx (h n : Nat) (b : Nat × (Nat → Nat)) (M : rt_I) : Prop := M 29 10 = nI h ∧ M 29 11 = nI b.1 ∧ (b.1 < FR → ∀ i, i < n → M 35 i = nI (b.2 i))
theorem XI.cr {M : rt_I} (h : XI s m us kp mk row tx I) (hF : Fr M I [29, 33, 35, 36, 37]) : XI s m us kp mk row tx M := h.q (hF.mono (by decide)) (by rw [hF 20 (by decide)]) (by rw [hF 38 (by decide)]) (h.2.2.2.2.2.1.fr (hF 42 (by decide)) (hF 43 (by decide)))
theorem wX10_callOn {h : Nat} (hk : sok s) (hm : mok s B m) (hh : h < s.np) : ∀ g e dp p t sh pre b (I : rt_I) (L : rt_L) (r : Nat) (Q : rt_Q) (x1 x2 x3 x4 : Int32), g ≤ e → cnt sh = g → dp + g ≤ 6 → p < s.np → t ≤ 120 → sh < 256 → b.1 ≤ FR → x1 = nI dp → x2 = nI p → x3 = nI t → x4 = nI sh → XI s m us kp mk row tx I → XW s m 0 I → CBx h (dp + g) b I → (∀ i, i < dp → I 36 i = nI (pre i)) →
    (∀ M, XI s m us kp mk row tx M → XW s m 0 M → CBx h (dp + g) (cF s m h g p t sh dp pre b) M → (∀ c, 108 ≤ c → M c = I c) → (∀ i, i < dp * 8 → M 37 i = I 37 i) → (∀ i, i < dp → M 36 i = I 36 i) → Q 0 M L r) → rt_Call G (e + 3) kX10_callOn [.ref 29, .int x1, .int x2, .int x3, .int x4] I L r Q := by
  have h8 := hk.1
  have hFR : FR = 1000000 := rfl
  intro g
  induction g with
  | zero =>
    intro e dp p t sh pre b I L r Q x1 x2 x3 x4 hge hc hdp hp ht hsh hbF e1 e2 e3 e4 hX hW hB hpre hQ
    subst e1 e2 e3
    obtain rfl := cnt_z hsh hc
    subst e4
    refine v_X10_callOn _ _ _ _ _ _ _ (gX_spread hX hk hm hW hp (by omega) (by omega) rfl rfl (show (0 : Int32) = nI 0 from rfl) (fun M h1 w1 s1 f1 => ⟨fun y => absurd rfl y, fun _ => ?_⟩))
    have e29 := f1 29 (by decide)
    have e35 := f1 35 (by decide)
    have e36 := f1 36 (by decide)
    have e37 := f1 37 (by decide)
    have hD := Ds_le hk hm 0 0 p (t := t) (by omega) h
    obtain ⟨b1, b2, b3⟩ := hB
    rw [e29, b1]
    refine ⟨vp_nI rfl (by omega) (by omega), ?_⟩
    rw [cl (n := h) rfl (by omega), s1 h (by omega), b2]
    unfold cF at hQ
    have hi1 : ∀ c, 108 ≤ c → M c = I c := f1.hi (by decide)
    refine ⟨fun z => ?_, fun z => ⟨vp_nI rfl (by omega) (by omega), ?_⟩⟩
    · have := (n_le (a := b.1) (b := Ds s m 0 0 p t h) rfl rfl (by omega) (by omega)).mp z
      rw [if_neg (by omega)] at hQ
      refine hQ M h1 w1 ⟨by rw [e29]; exact b1, by rw [e29]; exact b2, by rw [e35]; exact b3⟩ hi1 (fun _ _ => by rw [e37]) (fun _ _ => by rw [e36])
    · have := mt (n_le (a := b.1) (b := Ds s m 0 0 p t h) rfl rfl (by omega) (by omega)).mpr z
      rw [if_pos (by omega)] at hQ
      have hF : Fr (rt_uA (rt_u M 29 11 (nI (Ds s m 0 0 p t h))) 35 (va_cpy (M 36) (M 35) 0 0 6)) M [29, 33, 35, 36, 37] := ((Fr.refl _ _).u (by decide)).uA (by decide)
      refine hQ _ (h1.cr hF) (w1.fr (hF 30 (by decide)) (hF 31 (by decide))) ⟨?_, ?_, fun _ i hi => ?_⟩ (fun c hc => (hF.hi (by decide) c hc).trans (hi1 c hc)) (fun i hi => ?_) (fun i hi => ?_)
      · rw [rt_uA_ne (by decide), rt_u1 (by decide), e29]; exact b1
      · rw [rt_uA_ne (by decide)]; exact rt_u_at
      · rw [rt_uA_eq, e36]
        unfold va_cpy
        rw [if_pos (by omega), show 0 + (i - 0) = i by omega]
        exact hpre i (by omega)
      · rw [rt_uA_ne (by decide), rt_u_n (Or.inl (by decide)), e37]
      · rw [rt_uA_ne (by decide), rt_u_n (Or.inl (by decide)), e36]
  | succ g ih =>
    intro e dp p t sh pre b I L r Q x1 x2 x3 x4 hge hc hdp hp ht hsh hbF e1 e2 e3 e4 hX hW hB hpre hQ
    subst e1 e2 e3 e4
    obtain ⟨e, rfl⟩ : ∃ e', e = e' + 1 := ⟨e - 1, by omega⟩
    have hne : ¬ nI sh = 0 := fun a => by
      have := (nI_eq (a := sh) (b := 0) (by omega) (by omega)).mp a
      rw [this] at hc
      have hz : cnt 0 = 0 := by decide
      omega
    refine v_X10_callOn _ _ _ _ _ _ _ (gX_spread hX hk hm hW hp (by omega) (by omega) rfl rfl (show (0 : Int32) = nI 0 from rfl) (fun M h1 w1 s1 f1 => ⟨fun _ => ⟨fun _ => ?_, fun z => absurd ((n_lt (a := dp) (b := 6) rfl rfl (by omega) (by omega)).mpr (by omega)) z⟩, fun z => absurd z hne⟩))
    have ed8 : nI dp * (8 : Int32) = nI (dp * 8) := n_ml dp 8
    have hclr : ∀ q, q < 8 → nI sh &&& (((1 : Int32) <<< (nI q &&& 31)) ^^^ (-1)) = nI (clr sh q) := fun q hq => clr_dec ⟨sh, hsh⟩ ⟨q, hq⟩
    rw [ed8]
    refine ⟨⟨by decide, n_neg (by omega), by decide, by decide, by rw [cl (n := dp * 8) rfl (by omega)]; exact (show dp * 8 + 8 ≤ 56 by omega)⟩, ?_⟩
    rw [cl (n := dp * 8) rfl (by omega)]
    have hF : Fr (rt_uA M 37 (va_cpy (M 33) (M 37) 0 (dp * 8) 8)) I [29, 33, 35, 36, 37] := (f1.mono (by decide)).uA (by decide)
    have hDF : ∀ q, Ds s m 0 0 p t q ≤ FR := fun q => Ds_le hk hm 0 0 p (t := t) (by omega) q
    have ecF : cF s m h (g + 1) p t sh dp pre b = fdN (fun q b => if (sh.testBit q && decide (Ds s m 0 0 p t q ≤ 120)) = true then cF s m h g q (Ds s m 0 0 p t q) (clr sh q) (dp + 1) (updN pre dp q) b else b) s.np b := rfl
    rw [ecF] at hQ
    generalize hf : (fun q (b : Nat × (Nat → Nat)) => if (sh.testBit q && decide (Ds s m 0 0 p t q ≤ 120)) = true then cF s m h g q (Ds s m 0 0 p t q) (clr sh q) (dp + 1) (updN pre dp q) b else b) = f at hQ
    have hfa : ∀ q b, f q b = if (sh.testBit q && decide (Ds s m 0 0 p t q ≤ 120)) = true then cF s m h g q (Ds s m 0 0 p t q) (clr sh q) (dp + 1) (updN pre dp q) b else b := fun q b => by rw [← hf]
    have hble : ∀ k, (fdN f k b).1 ≤ FR := by
      intro k
      induction k with
      | zero => exact hbF
      | succ k ihk =>
        show (f k (fdN f k b)).1 ≤ FR
        rw [hfa]
        split
        · exact Nat.le_trans (cF_le hk hm _ _ _ _ _ _ _) ihk
        · exact ihk
    refine rt_loop (P := fun k => ∀ M, XI s m us kp mk row tx M → XW s m 0 M → CBx h (dp + (g + 1)) (fdN f k b) M → (∀ c, 108 ≤ c → M c = I c) → (∀ i, i < dp * 8 → M 37 i = I 37 i) → (∀ i, i < dp → M 36 i = I 36 i) → (∀ i, i < 8 → M 37 (dp * 8 + i) = nI (Ds s m 0 0 p t i)) → rt_AW G (e + 1 + 3) kX10_callOn Q 89 [some (.ref 29), some (.int (nI dp)), none, none, some (.int (nI sh)), some (.int (nI (dp * 8))), some (.int (nI k)), none] [] M L r) s.np ?_ ?_ _ (hX.cr hF) (hW.fr (hF 30 (by decide)) (hF 31 (by decide))) ?_ (hF.hi (by decide)) (fun i hi => ?_) (fun i hi => ?_) (fun i hi => ?_)
    · intro M2 h2 w2 c2 i2 a2 o2 d2
      exact v_X10_callOn_89 _ _ _ _ _ _ _ ⟨fun _ => hQ M2 h2 w2 c2 i2 a2 o2, fun z => absurd (by rw [h2.1.1]; exact Int32.le_refl _) z⟩
    · intro k hkn ih2 M2 h2 w2 c2 i2 a2 o2 d2
      have e1 : fdN f (k + 1) b = f k (fdN f k b) := rfl
      have hbk := hble k
      have skip : f k (fdN f k b) = fdN f k b → rt_AW G (e + 1 + 3) kX10_callOn Q 89 [some (.ref 29), some (.int (nI dp)), none, none, some (.int (nI sh)), some (.int (nI (dp * 8))), some (.int (nI (k + 1))), none] [] M2 L r := fun q => ih2 M2 h2 w2 (by rw [e1, q]; exact c2) i2 a2 o2 d2
      have hDk := hDF k
      refine v_X10_callOn_89 _ _ _ _ _ _ _ ⟨fun z => absurd ((n_le h2.1.1 rfl (by omega) (by omega)).mp z) (by omega), fun _ => ?_⟩
      rw [nI_add, nI_1]
      refine ⟨vp_nI rfl (by omega) (by omega), ?_⟩
      rw [cl (n := dp * 8 + k) rfl (by omega), d2 k (by omega), c2.2.1]
      have hs := shb ⟨sh, hsh⟩ ⟨k, by omega⟩
      refine ⟨fun z => skip (by rw [hfa, hs.mp z]; rfl), fun z => ⟨fun z2 => ?_, fun z2 => ⟨fun z3 => ?_, fun z3 => ⟨vp_nI rfl (by omega) (by omega), ?_⟩⟩⟩⟩
      · have hle := (n_le (a := (fdN f k b).1) (b := Ds s m 0 0 p t k) rfl rfl (by omega) (by omega)).mp z2
        refine skip ?_
        rw [hfa]
        split
        · exact cF_ge hk hm _ _ _ _ _ _ _ hDk hle
        · rfl
      · have hlt := (n_lt (a := 120) (b := Ds s m 0 0 p t k) rfl rfl (by omega) (by omega)).mp z3
        exact skip (by rw [hfa, if_neg (by simp; omega)])
      · have hle := mt (n_lt (a := 120) (b := Ds s m 0 0 p t k) rfl rfl (by omega) (by omega)).mpr z3
        have hb1 : sh.testBit k = true := by
          cases hh : sh.testBit k with
          | true => rfl
          | false => exact absurd (hs.mpr hh) z
        have hck := cnt_clr hsh (show k < 8 by omega) hb1
        rw [cl (n := dp) rfl (by omega), hclr k (by omega)]
        have hF2 : Fr (rt_u M2 36 dp (nI k)) M2 [29, 33, 35, 36, 37] := (Fr.refl _ _).u (by decide)
        have hcl := clr_le sh k
        refine ih e (dp + 1) k (Ds s m 0 0 p t k) (clr sh k) (updN pre dp k) (fdN f k b) _ _ _ _ _ _ _ _ (by omega) (by omega) (by omega) hkn (by omega) (by omega) hbk (by rw [nI_1]) rfl rfl rfl (h2.cr hF2) (w2.fr (hF2 30 (by decide)) (hF2 31 (by decide))) ?_ (fun i hi => ?_) (fun M3 h3 w3 c3 i3 a3 o3 => ?_)
        · rw [show dp + 1 + g = dp + (g + 1) by omega]
          exact ⟨(rt_u2 (by decide)).trans c2.1, (rt_u2 (by decide)).trans c2.2.1, fun q i hi => (rt_u2 (by decide)).trans (c2.2.2 q i hi)⟩
        · unfold updN
          by_cases q : i = dp
          · rw [q, if_pos rfl]; exact rt_u_at
          · rw [if_neg q, rt_u1 q, o2 i (by omega)]
            exact hpre i (by omega)
        · refine ih2 M3 h3 w3 ?_ (fun c hc => (i3 c hc).trans ((hF2.hi (by decide) c hc).trans (i2 c hc))) (fun i hi => ?_) (fun i hi => ?_) (fun i hi => ?_)
          · rw [e1, hfa, if_pos (by rw [hb1]; simp; omega), show dp + (g + 1) = dp + 1 + g by omega]
            exact c3
          · rw [a3 i (by omega), rt_u2 (by decide)]; exact a2 i hi
          · rw [o3 i (by omega), rt_u1 (by omega)]; exact o2 i hi
          · rw [a3 (dp * 8 + i) (by omega), rt_u2 (by decide)]; exact d2 i hi
    · obtain ⟨b1, b2, b3⟩ := hB
      exact ⟨by rw [rt_uA_ne (by decide), f1 29 (by decide)]; exact b1, by rw [rt_uA_ne (by decide), f1 29 (by decide)]; exact b2, by rw [rt_uA_ne (by decide), f1 35 (by decide)]; exact b3⟩
    · rw [rt_uA_eq]
      unfold va_cpy
      rw [if_neg (by omega), f1 37 (by decide)]
    · rw [rt_uA_ne (by decide), f1 36 (by decide)]
    · rw [rt_uA_eq]
      unfold va_cpy
      rw [if_pos (by omega), show 0 + (dp * 8 + i - dp * 8) = i by omega]
      exact s1 i hi
theorem fX_carrier {x y : Int32} (h : XI s m us kp mk row tx I) (hk : sok s) (hm : mok s B m)
    (hQ : ∀ M, XI s m us kp mk (fCarrier s m row x y).2 tx M → (∀ c, 108 ≤ c → M c = I c) → Q (fCarrier s m row x y).1 M L r) : rt_Call G (d + 14) kX11_carrier [.ref 0, .int x, .int y] I L r Q := by
  have h8 := hk.1
  have hFR : FR = 1000000 := rfl
  have hp2 : (2 : Nat) ^ s.np ≤ 2 ^ 8 := Nat.pow_le_pow_right (by omega) h8
  unfold fCarrier at hQ
  have hno : ¬ (inb x s.np = true ∧ inb y (2 ^ s.np) = true) → Q (-1) I L r := by
    intro q
    rw [if_neg q] at hQ
    exact hQ I h (fun _ _ => rfl)
  refine v_X11_carrier _ _ _ _ _ (sX2_hasPlace h.1.1 (fun z1 => ⟨fun q => absurd q (by decide), fun _ => sX2_allPlaces ?_⟩) (fun z1 => ⟨fun _ => hno (fun q => z1 (inb_iff.mp q.1)), fun q => absurd rfl q⟩))
  rw [h.1.1]
  refine ⟨fun z2 => ?_, fun z2 => hno (fun q => z2 ((set_cls h8).mpr q.2))⟩
  have hy := (set_cls h8).mp z2
  rw [if_pos ⟨inb_iff.mpr z1, hy⟩] at hQ
  obtain ⟨a, ha, rfl⟩ := (inr_iff (by omega)).mp z1
  obtain ⟨k, hk2, rfl⟩ := (inr_iff (by omega)).mp (inb_iff.mp hy)
  rw [cc_nI (by omega), cc_nI (by omega)] at hQ
  rw [show nI k &&& (((1 : Int32) <<< (nI a &&& 31)) ^^^ (-1)) = nI (clr k a) from clr_dec ⟨k, by omega⟩ ⟨a, by omega⟩]
  have hcl := clr_le k a
  generalize clr k a = sh at *
  refine sJ6_bitCount (b := fun q => sh.testBit q) (n := 8) (by rw [btn_of (by omega)]) (by omega) ?_
  have h8c := cb_le (fun q => sh.testBit q) 8
  refine ⟨fun z3 => ?_, fun z3 => ?_⟩
  · have hle := (n_le (a := cnt sh) (b := 6) rfl rfl (by unfold cnt; omega) (by omega)).mp z3
    rw [if_pos hle] at hQ
    refine gX_look (mg := 0) h hk hm (by omega) (fun M0 h0 w0 i0 => v_X10_goRound _ _ _ _ _ ?_)
    have hF : Fr (rt_u (rt_u M0 29 10 (nI a)) 29 11 1000000) M0 [29, 33, 35, 36, 37] := ((Fr.refl _ _).u (by decide)).u (by decide)
    refine wX10_callOn (h := a) hk hm ha (cnt sh) (d + 9) 0 a 0 sh (fun _ => 0) (FR, fun _ => 0) _ _ _ _ _ _ _ _ (by omega) rfl (by omega) ha (by omega) (by omega) (Nat.le_refl _) rfl rfl rfl rfl (h0.cr hF) (w0.fr (hF 30 (by decide)) (hF 31 (by decide))) ⟨(rt_u1 (by decide)).trans rt_u_at, rt_u_at, fun q => absurd q (Nat.lt_irrefl _)⟩ (fun i hi => absurd hi (Nat.not_lt_zero _)) (fun M1 h1 w1 c1 i1 _ _ => ?_)
    have hle2 := cF_le (h := a) hk hm (cnt sh) a 0 sh 0 (fun _ => 0) (FR, fun _ => 0)
    rw [Nat.zero_add] at c1
    generalize cF s m a (cnt sh) a 0 sh 0 (fun _ => 0) (FR, fun _ => 0) = b at *
    dsimp only at hle2
    have i1' : ∀ c, 108 ≤ c → M1 c = I c := fun c hc => (i1 c hc).trans ((hF.hi (by decide) c hc).trans (i0 c hc))
    rw [c1.2.1]
    refine ⟨fun z4 => ?_, fun z4 => ?_⟩
    · have hb := (n_le (a := b.1) (b := 120) rfl rfl (by omega) (by omega)).mp z4
      rw [if_pos hb] at hQ
      refine gX_clear h1 (fun M2 h2 f2 => ?_)
      refine rt_loop (P := fun k => ∀ M, XI s m us kp mk (rowN (fun i => nI (b.2 i)) k) tx M → M 35 = M1 35 → (∀ c, 108 ≤ c → M c = I c) → rt_AW G (d + 14) kX11_carrier Q 90 [some (.ref 0), none, none, none, some (.int (nI (cb (fun q => sh.testBit q) 8))), some (.int (nI b.1)), some (.int (nI k))] [] M L r) (cnt sh) ?_ ?_ M2 h2 (f2 35 (by decide)) (fun c hc => (f2.hi (by decide) c hc).trans (i1' c hc))
      · intro M hX _ hi
        exact v_X11_carrier_90 _ _ _ _ _ _ ⟨fun _ => hQ M hX hi, fun z => absurd (Int32.le_refl _) z⟩
      · intro k hkn ih M hX h35 hi
        refine v_X11_carrier_90 _ _ _ _ _ _ ⟨fun z => absurd ((n_le (a := cnt sh) (b := k) rfl rfl (by omega) (by omega)).mp z) (by omega), fun _ => ⟨vp_nI rfl (by omega) (by omega), ?_⟩⟩
        rw [cl (n := k) rfl (by omega), h35, c1.2.2 (by omega) k hkn, nI_1]
        refine gX_add hX (by rw [rowN_len]; omega) (fun M3 h3 f3 => ih M3 h3 ((f3 35 (by decide)).trans h35) (fun c hc => (f3.hi (by decide) c hc).trans (hi c hc)))
    · have hb := mt (n_le (a := b.1) (b := 120) rfl rfl (by omega) (by omega)).mpr z4
      rw [if_neg hb] at hQ
      exact hQ M1 h1 i1'
  · have hle := mt (n_le (a := cnt sh) (b := 6) rfl rfl (by unfold cnt; omega) (by omega)).mpr z3
    rw [if_neg hle] at hQ
    exact hQ I h (fun _ _ => rfl)
end
