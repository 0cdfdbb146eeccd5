/-! ONE STEP OF BOTH SIDES, call by call -/
def JS (G : rt_G) (B : Nat) (kx km : rt_K) (as : List Value) : Prop := ∀ (I : rt_I) (L : rt_L) (r : Nat), INV B I → rt_Call G 200 kx (.ref 0 :: as) I L r (fun v I1 L1 r1 => rt_Call G 200 km (.ref 108 :: as) I1 L1 r1 (fun w I2 L2 r2 => w = v ∧ INV (B + 7000) I2 ∧ I2 108 14 = 0))
section
variable {G : rt_G} {Q : rt_Q} {I : rt_I} {L : rt_L} {r B : Nat} {s s' : SV} {m m' : MO} {us us' : List MO} {kp kp' : Nat → Option MO} {mk mk' : MKT} {row row' : List Int32} {tx tx' : TXT}
/-- the two sides, out of their faces -/
theorem js {kx km : rt_K} {as : List Value} {v : Int32} (hX : XI s m us kp mk row tx I) (hM : MI B s m us kp mk row tx I)
    (X : ∀ Q : rt_Q, (∀ M L', XI s' m' us' kp' mk' row' tx' M → (∀ c, 108 ≤ c → M c = I c) → Q v M L' r) → rt_Call G 200 kx (.ref 0 :: as) I L r Q)
    (Y : ∀ (J : rt_I) (L1 : rt_L) (r1 : Nat) (Q : rt_Q), MI B s m us kp mk row tx J → (∀ M r', MI (B + 1) s' m' us' kp' mk' row' tx' M → Lo M J → M 108 14 = 0 → Q v M L1 r') → rt_Call G 200 km (.ref 108 :: as) J L1 r1 Q)
    (hw : wf (B + 7000) s' m' us' kp' mk' row' tx') :
    rt_Call G 200 kx (.ref 0 :: as) I L r (fun v I1 L1 r1 => rt_Call G 200 km (.ref 108 :: as) I1 L1 r1 (fun w I2 L2 r2 => w = v ∧ INV (B + 7000) I2 ∧ I2 108 14 = 0)) :=
  X _ (fun M L' hX' hhi => Y M L' r _ (hM.keep hhi) (fun M2 r2 hM2 hLo h14 => ⟨rfl, ⟨s', m', us', kp', mk', row', tx', hX'.keep hLo, hM2.up (by omega), hw⟩, h14⟩))
theorem len_if {c : Prop} [Decidable c] {a b : Int32 × List Int32} (ha : a.2.length ≤ 16) (hb : b.2.length ≤ 16) : (if c then a else b).2.length ≤ 16 := by
  split
  · exact ha
  · exact hb
theorem pth_len (s : SV) (m : MO) (mg b x : Nat) : ∀ g p t sh, (pth s m mg b x g p t sh).length ≤ 2 * g := by
  intro g
  induction g with
  | zero => intro p t sh; exact Nat.le_refl _
  | succ g ih =>
    intro p t sh
    unfold pth
    split
    · exact Nat.zero_le _
    · split
      · exact Nat.zero_le _
      · simp only [List.length_cons]
        have := ih (ntt m (lwF s m mg (sh ||| 2 ^ p) b x p t s.nr).1) (nar s m mg (lwF s m mg (sh ||| 2 ^ p) b x p t s.nr).1 t) (sh ||| 2 ^ p)
        omega
theorem fWay_len {mg : Nat} {x y : Int32} (h : row.length ≤ 16) : (fWay s m row mg x y).2.length ≤ 16 := by
  unfold fWay
  exact len_if (len_if (pth_len _ _ _ _ _ 8 _ _ _) h) h
theorem fSafe_len {x y z : Int32} (h : row.length ≤ 16) : (fSafe s m row x y z).2.length ≤ 16 := by
  unfold fSafe
  exact len_if (fWay_len h) h
theorem fCarrier_len {x y : Int32} (h : row.length ≤ 16) : (fCarrier s m row x y).2.length ≤ 16 := by
  unfold fCarrier
  split
  · split
    · rename_i z
      refine len_if ?_ h
      show (rowN _ _).length ≤ 16
      rw [rowN_len]
      omega
    · exact h
  · exact h
theorem fLevel_len {x : Int32} (h : row.length ≤ 16) : (fLevel s m row x).2.length ≤ 16 := by unfold fLevel; exact len_if (by simp) h
theorem fTable_len {x y : Int32} (h : row.length ≤ 16) : (fTable s m row x y).2.length ≤ 16 := by unfold fTable; exact len_if (by unfold tbRow; simp) h
theorem fComes_len {x : Int32} (h : row.length ≤ 16) : (fComes s m row x).2.length ≤ 16 := by unfold fComes; exact len_if (len_if (by simp) h) h
theorem fArr_len {x : Int32} (h : row.length ≤ 16) : (fArr s m row x).2.length ≤ 16 := by unfold fArr; exact len_if (len_if (len_if (by simp) (by simp)) h) h
theorem fBest_len {x y : Int32} (h : row.length ≤ 16) : (fBest s m row x y).2.length ≤ 16 := by unfold fBest; exact len_if (len_if h (len_if h (len_if h (by simp)))) h
theorem fWithin_len {x y : Int32} (h : row.length ≤ 16) : (fWithin s m row x y).2.length ≤ 16 := by unfold fWithin; exact len_if (by simp) h
theorem fInns_len {x : Int32} (h : row.length ≤ 16) : (fInns s m row x).2.length ≤ 16 := by unfold fInns; exact len_if (by simp) h
theorem fYears_len {x y : Int32} (h : row.length ≤ 16) : (fYears s m row x y).2.length ≤ 16 := by unfold fYears; exact len_if (len_if h (by simp)) h
theorem fFits_len {x : Int32} (h : row.length ≤ 16) : (fFits mk row x).2.length ≤ 16 := by
  unfold fFits
  refine len_if ?_ h
  show (rwS _).length ≤ 16
  unfold rwS
  split
  · simp
  · simp
theorem fRead_len {x y : Int32} (h : row.length ≤ 16) : (fRead mk row x y).2.length ≤ 16 := by unfold fRead; exact len_if (by simp) h
theorem fLook_len {x : Int32} (h : row.length ≤ 16) : (fLook m mk row x).2.length ≤ 16 := by unfold fLook; exact len_if (len_if h (by simp)) h
theorem fMark_ok {x y : Int32} (h : mk.1 ≤ 10) : (fMark x y mk).2.1 ≤ 10 := by
  unfold fMark
  split
  · rename_i z
    exact Nat.succ_le_of_lt z.2
  · exact h
end
section
variable {G : rt_G} {B : Nat}
theorem js_out (x y : Int32) (hB : B < 2 ^ 28 - 10000) : JS G B kX11_out kX12_out [.int x, .int y] := by
  rintro I L r ⟨s, m, us, kp, mk, row, tx, hX, hM, hw⟩
  obtain ⟨w1, w2, w3, w4, w5, w6, w7⟩ := id hw
  have hw' := hw.up (B' := B + 7000) (by omega)
  exact js hX hM (fun Q hQ => fX_out hX w1 w2 (fun M a b => hQ M _ a b)) (fun J L1 r1 Q hJ hQ => fM_out hJ w1 w2 (fun M r2 a b c => hQ M r2 (a.up (by omega)) b c)) (hw'.psh ((aOut_ok w1 w2 x y).mono (by omega)) (psh_or _))
theorem js_round (x : Int32) (hB : B < 2 ^ 28 - 10000) : JS G B kX11_round kX12_round [.int x] := by
  rintro I L r ⟨s, m, us, kp, mk, row, tx, hX, hM, hw⟩
  obtain ⟨w1, w2, w3, w4, w5, w6, w7⟩ := id hw
  have hw' := hw.up (B' := B + 7000) (by omega)
  exact js hX hM (fun Q hQ => fX_round hX w1 w2 (fun M a b => hQ M _ a b)) (fun J L1 r1 Q hJ hQ => fM_round hJ w1 w2 (fun M r2 a b c => hQ M r2 (a.up (by omega)) b c)) (hw'.psh ((aRound_ok w1 w2 x).mono (by omega)) (psh_or _))
theorem js_chain (x y : Int32) (hB : B < 2 ^ 28 - 10000) : JS G B kX11_chain kX12_chain [.int x, .int y] := by
  rintro I L r ⟨s, m, us, kp, mk, row, tx, hX, hM, hw⟩
  obtain ⟨w1, w2, w3, w4, w5, w6, w7⟩ := id hw
  have hw' := hw.up (B' := B + 7000) (by omega)
  exact js hX hM (fun Q hQ => fX_chain hX w1 w2 (fun M a b => hQ M _ a b)) (fun J L1 r1 Q hJ hQ => fM_chain hJ w1 w2 (fun M r2 a b c => hQ M r2 (a.up (by omega)) b c)) (hw'.psh ((aChain_ok w1 w2 x y).mono (by omega)) (psh_or _))
theorem js_load (x y : Int32) (hB : B < 2 ^ 28 - 10000) : JS G B kX11_load kX12_load [.int x, .int y] := by
  rintro I L r ⟨s, m, us, kp, mk, row, tx, hX, hM, hw⟩
  obtain ⟨w1, w2, w3, w4, w5, w6, w7⟩ := id hw
  have hw' := hw.up (B' := B + 7000) (by omega)
  exact js hX hM (fun Q hQ => fX_load hX w1 w2 (fun M a b => hQ M _ a b)) (fun J L1 r1 Q hJ hQ => fM_load hJ w1 w2 (fun M r2 a b c => hQ M r2 (a.up (by omega)) b c)) (hw'.psh ((aLoad_ok w1 w2 x y).mono (by omega)) (psh_or _))
theorem js_storm (x y z : Int32) (hB : B < 2 ^ 28 - 10000) : JS G B kX11_storm kX12_storm [.int x, .int y, .int z] := by
  rintro I L r ⟨s, m, us, kp, mk, row, tx, hX, hM, hw⟩
  obtain ⟨w1, w2, w3, w4, w5, w6, w7⟩ := id hw
  have hw' := hw.up (B' := B + 7000) (by omega)
  exact js hX hM (fun Q hQ => fX_storm hX w1 w2 (fun M a b => hQ M _ a b)) (fun J L1 r1 Q hJ hQ => fM_storm hJ w1 w2 (fun M r2 a b c => hQ M r2 (a.up (by omega)) b c)) (hw'.psh ((aStorm_ok w1 w2 x y z).mono (by omega)) (psh_or _))
theorem js_sign (x : Int32) (hB : B < 2 ^ 28 - 10000) : JS G B kX11_sign kX12_sign [.int x] := by
  rintro I L r ⟨s, m, us, kp, mk, row, tx, hX, hM, hw⟩
  obtain ⟨w1, w2, w3, w4, w5, w6, w7⟩ := id hw
  have hw' := hw.up (B' := B + 7000) (by omega)
  exact js hX hM (fun Q hQ => fX_sign hX w7.1 (fun M a b => hQ M _ a b)) (fun J L1 r1 Q hJ hQ => fM_sign hJ w7.1 (fun M r2 a b c => hQ M r2 (a.up (by omega)) b c)) (hw'.tx' (fSign_ok w7))
theorem js_end (x : Int32) (hB : B < 2 ^ 28 - 10000) : JS G B kX11_end kX12_end [.int x] := by
  rintro I L r ⟨s, m, us, kp, mk, row, tx, hX, hM, hw⟩
  obtain ⟨w1, w2, w3, w4, w5, w6, w7⟩ := id hw
  have hw' := hw.up (B' := B + 7000) (by omega)
  exact js hX hM (fun Q hQ => fX_end hX w7.1 (fun M a b => hQ M _ a b)) (fun J L1 r1 Q hJ hQ => fM_end hJ w7.1 (fun M r2 a b c => hQ M r2 (a.up (by omega)) b c)) (hw'.tx' (fEnd_ok w7))
theorem js_patience (x : Int32) (hB : B < 2 ^ 28 - 10000) : JS G B kX11_patience kX12_patience [.int x] := by
  rintro I L r ⟨s, m, us, kp, mk, row, tx, hX, hM, hw⟩
  obtain ⟨w1, w2, w3, w4, w5, w6, w7⟩ := id hw
  have hw' := hw.up (B' := B + 7000) (by omega)
  exact js hX hM (fun Q hQ => fX_pat hX  (fun M a b => hQ M _ a b)) (fun J L1 r1 Q hJ hQ => fM_pat hJ  (fun M r2 a b c => hQ M r2 (a.up (by omega)) b c)) (hw'.s' (sok_pat w1) (fun u hu => mok_pat hu))
theorem js_sheet (x y z t : Int32) (hB : B < 2 ^ 28 - 10000) : JS G B kX11_sheet kX12_sheet [.int x, .int y, .int z, .int t] := by
  rintro I L r ⟨s, m, us, kp, mk, row, tx, hX, hM, hw⟩
  obtain ⟨w1, w2, w3, w4, w5, w6, w7⟩ := id hw
  have hw' := hw.up (B' := B + 7000) (by omega)
  exact js hX hM (fun Q hQ => fX_sheet hX w1 (fun M a b => hQ M _ a b)) (fun J L1 r1 Q hJ hQ => fM_sheet hJ w1 (fun M r2 a b c => hQ M r2 (a.up (by omega)) b c)) (by rcases sheet_cases (s := s) (kind := x) (n := y) (f := z) (st := t) with e | e <;> rw [e] <;> exact hw'.s' w1 (fun u hu => hu))
theorem js_mark (x y : Int32) (hB : B < 2 ^ 28 - 10000) : JS G B kX11_mark kX12_mark [.int x, .int y] := by
  rintro I L r ⟨s, m, us, kp, mk, row, tx, hX, hM, hw⟩
  obtain ⟨w1, w2, w3, w4, w5, w6, w7⟩ := id hw
  have hw' := hw.up (B' := B + 7000) (by omega)
  exact js hX hM (fun Q hQ => fX_mark hX w5 (fun M a b => hQ M _ a b)) (fun J L1 r1 Q hJ hQ => fM_mark hJ w5 (fun M r2 a b c => hQ M r2 (a.up (by omega)) b c)) (hw'.mk' (fMark_ok w5))
theorem js_wash (hB : B < 2 ^ 28 - 10000) : JS G B kX11_wash kX12_wash [] := by
  rintro I L r ⟨s, m, us, kp, mk, row, tx, hX, hM, hw⟩
  obtain ⟨w1, w2, w3, w4, w5, w6, w7⟩ := id hw
  have hw' := hw.up (B' := B + 7000) (by omega)
  exact js hX hM (fun Q hQ => fX_wash hX  (fun M a b => hQ M _ a b)) (fun J L1 r1 Q hJ hQ => fM_wash hJ  (fun M r2 a b c => hQ M r2 (a.up (by omega)) b c)) (hw'.mk' (Nat.zero_le _))
theorem js_level (x : Int32) (hB : B < 2 ^ 28 - 10000) : JS G B kX11_level kX12_level [.int x] := by
  rintro I L r ⟨s, m, us, kp, mk, row, tx, hX, hM, hw⟩
  obtain ⟨w1, w2, w3, w4, w5, w6, w7⟩ := id hw
  have hw' := hw.up (B' := B + 7000) (by omega)
  exact js hX hM (fun Q hQ => fX_level hX w1 (fun M a b => hQ M _ a b)) (fun J L1 r1 Q hJ hQ => fM_level hJ w1 (fun M r2 a b c => hQ M r2 (a.up (by omega)) b c)) (hw'.row' (fLevel_len w6))
theorem js_table (x y : Int32) (hB : B < 2 ^ 28 - 10000) : JS G B kX11_table kX12_table [.int x, .int y] := by
  rintro I L r ⟨s, m, us, kp, mk, row, tx, hX, hM, hw⟩
  obtain ⟨w1, w2, w3, w4, w5, w6, w7⟩ := id hw
  have hw' := hw.up (B' := B + 7000) (by omega)
  exact js hX hM (fun Q hQ => fX_table hX w1 (fun M a b => hQ M _ a b)) (fun J L1 r1 Q hJ hQ => fM_table hJ w1 (fun M r2 a b c => hQ M r2 (a.up (by omega)) b c)) (hw'.row' (fTable_len w6))
theorem js_comes (x : Int32) (hB : B < 2 ^ 28 - 10000) : JS G B kX11_comes kX12_comes [.int x] := by
  rintro I L r ⟨s, m, us, kp, mk, row, tx, hX, hM, hw⟩
  obtain ⟨w1, w2, w3, w4, w5, w6, w7⟩ := id hw
  have hw' := hw.up (B' := B + 7000) (by omega)
  exact js hX hM (fun Q hQ => fX_comes hX w1 (fun M a b => hQ M _ a b)) (fun J L1 r1 Q hJ hQ => fM_comes hJ w1 (fun M r2 a b c => hQ M r2 (a.up (by omega)) b c)) (hw'.row' (fComes_len w6))
theorem js_ebb (hB : B < 2 ^ 28 - 10000) : JS G B kX11_ebb kX12_ebb [] := by
  rintro I L r ⟨s, m, us, kp, mk, row, tx, hX, hM, hw⟩
  obtain ⟨w1, w2, w3, w4, w5, w6, w7⟩ := id hw
  have hw' := hw.up (B' := B + 7000) (by omega)
  exact js hX hM (fun Q hQ => fX_ebb hX w1 (fun M a b => hQ M _ a b)) (fun J L1 r1 Q hJ hQ => fM_ebb hJ w1 (fun M r2 a b c => hQ M r2 (a.up (by omega)) b c)) (hw'.row' (by unfold ebRow; simp))
theorem js_slack (hB : B < 2 ^ 28 - 10000) : JS G B kX11_slack kX12_slack [] := by
  rintro I L r ⟨s, m, us, kp, mk, row, tx, hX, hM, hw⟩
  obtain ⟨w1, w2, w3, w4, w5, w6, w7⟩ := id hw
  have hw' := hw.up (B' := B + 7000) (by omega)
  exact js hX hM (fun Q hQ => fX_slack hX w1 (fun M a b => hQ M _ a b)) (fun J L1 r1 Q hJ hQ => fM_slack hJ w1 (fun M r2 a b c => hQ M r2 (a.up (by omega)) b c)) (hw'.row' (by unfold slRow; simp))
theorem js_arrives (x : Int32) (hB : B < 2 ^ 28 - 10000) : JS G B kX11_arrives kX12_arrives [.int x] := by
  rintro I L r ⟨s, m, us, kp, mk, row, tx, hX, hM, hw⟩
  obtain ⟨w1, w2, w3, w4, w5, w6, w7⟩ := id hw
  have hw' := hw.up (B' := B + 7000) (by omega)
  exact js hX hM (fun Q hQ => fX_arr hX w1 w2 (fun M a b => hQ M _ a b)) (fun J L1 r1 Q hJ hQ => fM_arr hJ w1 w2 (fun M r2 a b c => hQ M r2 (a.up (by omega)) b c)) (hw'.row' (fArr_len w6))
theorem js_best (x y : Int32) (hB : B < 2 ^ 28 - 10000) : JS G B kX11_best kX12_best [.int x, .int y] := by
  rintro I L r ⟨s, m, us, kp, mk, row, tx, hX, hM, hw⟩
  obtain ⟨w1, w2, w3, w4, w5, w6, w7⟩ := id hw
  have hw' := hw.up (B' := B + 7000) (by omega)
  exact js hX hM (fun Q hQ => fX_best hX w1 w2 (fun M a b => hQ M _ a b)) (fun J L1 r1 Q hJ hQ => fM_best hJ w1 w2 (fun M r2 a b c => hQ M r2 (a.up (by omega)) b c)) (hw'.row' (fBest_len w6))
theorem js_within (x y : Int32) (hB : B < 2 ^ 28 - 10000) : JS G B kX11_within kX12_within [.int x, .int y] := by
  rintro I L r ⟨s, m, us, kp, mk, row, tx, hX, hM, hw⟩
  obtain ⟨w1, w2, w3, w4, w5, w6, w7⟩ := id hw
  have hw' := hw.up (B' := B + 7000) (by omega)
  exact js hX hM (fun Q hQ => fX_within hX w1 w2 (fun M a b => hQ M _ a b)) (fun J L1 r1 Q hJ hQ => fM_within hJ w1 w2 (fun M r2 a b c => hQ M r2 (a.up (by omega)) b c)) (hw'.row' (fWithin_len w6))
theorem js_inns (x : Int32) (hB : B < 2 ^ 28 - 10000) : JS G B kX11_inns kX12_inns [.int x] := by
  rintro I L r ⟨s, m, us, kp, mk, row, tx, hX, hM, hw⟩
  obtain ⟨w1, w2, w3, w4, w5, w6, w7⟩ := id hw
  have hw' := hw.up (B' := B + 7000) (by omega)
  exact js hX hM (fun Q hQ => fX_inns hX w1 w2 (fun M a b => hQ M _ a b)) (fun J L1 r1 Q hJ hQ => fM_inns hJ w1 w2 (fun M r2 a b c => hQ M r2 (a.up (by omega)) b c)) (hw'.row' (fInns_len w6))
theorem js_soonest (x y : Int32) (hB : B < 2 ^ 28 - 10000) : JS G B kX11_soonest kX12_soonest [.int x, .int y] := by
  rintro I L r ⟨s, m, us, kp, mk, row, tx, hX, hM, hw⟩
  obtain ⟨w1, w2, w3, w4, w5, w6, w7⟩ := id hw
  have hw' := hw.up (B' := B + 7000) (by omega)
  exact js hX hM (fun Q hQ => fX_soonest hX w1 w2 (fun M a b => hQ M _ a b)) (fun J L1 r1 Q hJ hQ => fM_soonest hJ w1 w2 (fun M r2 a b c => hQ M r2 (a.up (by omega)) b c)) (hw'.row' (fWay_len w6))
theorem js_safe (x y z : Int32) (hB : B < 2 ^ 28 - 10000) : JS G B kX11_safe kX12_safe [.int x, .int y, .int z] := by
  rintro I L r ⟨s, m, us, kp, mk, row, tx, hX, hM, hw⟩
  obtain ⟨w1, w2, w3, w4, w5, w6, w7⟩ := id hw
  have hw' := hw.up (B' := B + 7000) (by omega)
  exact js hX hM (fun Q hQ => fX_safe hX w1 w2 (fun M a b => hQ M _ a b)) (fun J L1 r1 Q hJ hQ => fM_safe hJ w1 w2 (fun M r2 a b c => hQ M r2 (a.up (by omega)) b c)) (hw'.row' (fSafe_len w6))
theorem js_carrier (x y : Int32) (hB : B < 2 ^ 28 - 10000) : JS G B kX11_carrier kX12_carrier [.int x, .int y] := by
  rintro I L r ⟨s, m, us, kp, mk, row, tx, hX, hM, hw⟩
  obtain ⟨w1, w2, w3, w4, w5, w6, w7⟩ := id hw
  have hw' := hw.up (B' := B + 7000) (by omega)
  exact js hX hM (fun Q hQ => fX_carrier hX w1 w2 (fun M a b => hQ M _ a b)) (fun J L1 r1 Q hJ hQ => fM_carrier hJ w1 w2 (fun M r2 a b c => hQ M r2 (a.up (by omega)) b c)) (hw'.row' (fCarrier_len w6))
theorem js_years (x y : Int32) (hB : B < 2 ^ 28 - 10000) : JS G B kX11_years kX12_years [.int x, .int y] := by
  rintro I L r ⟨s, m, us, kp, mk, row, tx, hX, hM, hw⟩
  obtain ⟨w1, w2, w3, w4, w5, w6, w7⟩ := id hw
  have hw' := hw.up (B' := B + 7000) (by omega)
  exact js hX hM (fun Q hQ => fX_years hX w1 w2 (by omega) (fun M a b => hQ M _ a b)) (fun J L1 r1 Q hJ hQ => fM_years hJ w1 w2 (by omega) (fun M r2 a b c => hQ M r2 (a.up (by omega)) b c)) (hw'.row' (fYears_len w6))
theorem js_fits (x : Int32) (hB : B < 2 ^ 28 - 10000) : JS G B kX11_fits kX12_fits [.int x] := by
  rintro I L r ⟨s, m, us, kp, mk, row, tx, hX, hM, hw⟩
  obtain ⟨w1, w2, w3, w4, w5, w6, w7⟩ := id hw
  have hw' := hw.up (B' := B + 7000) (by omega)
  exact js hX hM (fun Q hQ => fX_fits hX w5 (fun M L2 a b => hQ M L2 a b)) (fun J L1 r1 Q hJ hQ => fM_fits hJ w5 (fun M r2 a b c => hQ M r2 (a.up (by omega)) b c)) (hw'.row' (fFits_len w6))
theorem js_read (x y : Int32) (hB : B < 2 ^ 28 - 10000) : JS G B kX11_read kX12_read [.int x, .int y] := by
  rintro I L r ⟨s, m, us, kp, mk, row, tx, hX, hM, hw⟩
  obtain ⟨w1, w2, w3, w4, w5, w6, w7⟩ := id hw
  have hw' := hw.up (B' := B + 7000) (by omega)
  exact js hX hM (fun Q hQ => fX_read hX w5 (fun M L2 a b => hQ M L2 a b)) (fun J L1 r1 Q hJ hQ => fM_read hJ w5 (fun M r2 a b c => hQ M r2 (a.up (by omega)) b c)) (hw'.row' (fRead_len w6))
theorem js_lookat (x : Int32) (hB : B < 2 ^ 28 - 10000) : JS G B kX11_lookat kX12_lookat [.int x] := by
  rintro I L r ⟨s, m, us, kp, mk, row, tx, hX, hM, hw⟩
  obtain ⟨w1, w2, w3, w4, w5, w6, w7⟩ := id hw
  have hw' := hw.up (B' := B + 7000) (by omega)
  exact js hX hM (fun Q hQ => fX_lookat hX w5 w2 (by omega) (fun M L2 a b => hQ M L2 a b)) (fun J L1 r1 Q hJ hQ => fM_lookat hJ w5 w2 (by omega) (fun M r2 a b c => hQ M r2 (a.up (by omega)) b c)) (hw'.row' (fLook_len w6))
theorem js_latest (x y z : Int32) (hB : B < 2 ^ 28 - 10000) : JS G B kX11_latest kX12_latest [.int x, .int y, .int z] := by
  rintro I L r ⟨s, m, us, kp, mk, row, tx, hX, hM, hw⟩
  obtain ⟨w1, w2, w3, w4, w5, w6, w7⟩ := id hw
  have hw' := hw.up (B' := B + 7000) (by omega)
  exact js hX hM (fun Q hQ => fX_latest hX w1 w2 (fun M a b => hQ M _ a b)) (fun J L1 r1 Q hJ hQ => fM_latest hJ w1 w2 (fun M r2 a b c => hQ M r2 (a.up (by omega)) b c)) (hw')
theorem js_cutoff (x : Int32) (hB : B < 2 ^ 28 - 10000) : JS G B kX11_cutoff kX12_cutoff [.int x] := by
  rintro I L r ⟨s, m, us, kp, mk, row, tx, hX, hM, hw⟩
  obtain ⟨w1, w2, w3, w4, w5, w6, w7⟩ := id hw
  have hw' := hw.up (B' := B + 7000) (by omega)
  exact js hX hM (fun Q hQ => fX_cutoff hX w1 w2 (fun M a b => hQ M _ a b)) (fun J L1 r1 Q hJ hQ => fM_cutoff hJ w1 w2 (fun M r2 a b c => hQ M r2 (a.up (by omega)) b c)) (hw')
theorem js_could (x y : Int32) (hB : B < 2 ^ 28 - 10000) : JS G B kX11_could kX12_could [.int x, .int y] := by
  rintro I L r ⟨s, m, us, kp, mk, row, tx, hX, hM, hw⟩
  obtain ⟨w1, w2, w3, w4, w5, w6, w7⟩ := id hw
  have hw' := hw.up (B' := B + 7000) (by omega)
  exact js hX hM (fun Q hQ => fX_could hX w1 w2 (fun M a b => hQ M _ a b)) (fun J L1 r1 Q hJ hQ => fM_could hJ w1 w2 (fun M r2 a b c => hQ M r2 (a.up (by omega)) b c)) (hw')
theorem js_period (hB : B < 2 ^ 28 - 10000) : JS G B kX11_period kX12_period [] := by
  rintro I L r ⟨s, m, us, kp, mk, row, tx, hX, hM, hw⟩
  obtain ⟨w1, w2, w3, w4, w5, w6, w7⟩ := id hw
  have hw' := hw.up (B' := B + 7000) (by omega)
  exact js hX hM (fun Q hQ => fX_period hX w1 (fun M a b => hQ M _ a b)) (fun J L1 r1 Q hJ hQ => fM_period hJ w1 (fun M r2 a b c => hQ M r2 (a.up (by omega)) b c)) (hw')
theorem js_count (x : Int32) (hB : B < 2 ^ 28 - 10000) : JS G B kX11_count kX12_count [.int x] := by
  rintro I L r ⟨s, m, us, kp, mk, row, tx, hX, hM, hw⟩
  obtain ⟨w1, w2, w3, w4, w5, w6, w7⟩ := id hw
  have hw' := hw.up (B' := B + 7000) (by omega)
  exact js hX hM (fun Q hQ => fX_count hX w1 (hQ _ _ hX (fun _ _ => rfl))) (fun J L1 r1 Q hJ hQ => fM_count hJ w1 (fun M r2 a b c => hQ M r2 (a.up (by omega)) b c)) (hw')
theorem js_undo (hB : B < 2 ^ 28 - 10000) : JS G B kX11_undo kX12_undo [] := by
  rintro I L r ⟨s, m, us, kp, mk, row, tx, hX, hM, hw⟩
  obtain ⟨w1, w2, w3, w4, w5, w6, w7⟩ := id hw
  have hw' := hw.up (B' := B + 7000) (by omega)
  exact js hX hM (fun Q hQ => fX_undo hX w1 (fun M a b => hQ M _ a b)) (fun J L1 r1 Q hJ hQ => fM_undo hJ w1 (fun M r2 a b c => hQ M r2 (a.up (by omega)) b c)) (by
    cases us with
    | nil => exact hw'
    | cons u us2 => exact ⟨hw'.1, hw'.2.2.1 u List.mem_cons_self, fun u2 hu => hw'.2.2.1 u2 (List.mem_cons_of_mem _ hu), hw'.2.2.2⟩)
theorem js_keep (x : Int32) (hB : B < 2 ^ 28 - 10000) : JS G B kX11_keep kX12_keep [.int x] := by
  rintro I L r ⟨s, m, us, kp, mk, row, tx, hX, hM, hw⟩
  obtain ⟨w1, w2, w3, w4, w5, w6, w7⟩ := id hw
  have hw' := hw.up (B' := B + 7000) (by omega)
  exact js hX hM (fun Q hQ => fX_keep hX w1 (fun M a b => hQ M _ a b)) (fun J L1 r1 Q hJ hQ => fM_keep hJ w1 (fun M r2 a b c => hQ M r2 (a.up (by omega)) b c)) (by
    refine ⟨hw'.1, hw'.2.1, hw'.2.2.1, fun i u hi hu => ?_, hw'.2.2.2.2⟩
    unfold fKeep at hu
    split at hu
    · have hu2 : updK kp (cc x) (some m) i = some u := hu
      unfold updK at hu2
      split at hu2
      · cases hu2; exact hw'.2.1
      · exact hw'.2.2.2.1 i u hi hu2
    · exact hw'.2.2.2.1 i u hi hu)
theorem js_again (x : Int32) (hB : B < 2 ^ 28 - 10000) : JS G B kX11_again kX12_again [.int x] := by
  rintro I L r ⟨s, m, us, kp, mk, row, tx, hX, hM, hw⟩
  obtain ⟨w1, w2, w3, w4, w5, w6, w7⟩ := id hw
  have hw' := hw.up (B' := B + 7000) (by omega)
  exact js hX hM (fun Q hQ => fX_again hX w1 (fun M a b => hQ M _ a b)) (fun J L1 r1 Q hJ hQ => fM_again hJ w1 (by omega) (fun M r2 a b c => hQ M r2 (a.up (by omega)) b c)) (by
    unfold fAgain
    split
    · rename_i z
      obtain ⟨i, hi, e⟩ := inb_ex (by omega) z
      have e2 : cc x = i := by rw [e]; exact cc_nI (by omega)
      cases hk : kp (cc x) with
      | none => exact hw'
      | some u => exact ⟨hw'.1, hw'.2.2.2.1 i u hi (by rw [← e2]; exact hk), fun u2 hu => (by cases hu), hw'.2.2.2⟩
    · exact hw')
theorem js_pass (x : Int32) (hB : B < 2 ^ 28 - 10000) : JS G B kX11_pass kX12_pass [.int x] := by
  rintro I L r ⟨s, m, us, kp, mk, row, tx, hX, hM, hw⟩
  obtain ⟨w1, w2, w3, w4, w5, w6, w7⟩ := id hw
  have hw' := hw.up (B' := B + 7000) (by omega)
  exact js hX hM (fun Q hQ => fX_pass hX w1 w2 (by omega) (fun M a b => hQ M _ a b)) (fun J L1 r1 Q hJ hQ => fM_pass hJ w1 w2 (by omega) (fun M r2 a b c => hQ M r2 (a.up (by omega)) b c)) (by
    unfold fPass
    split
    · rename_i z
      obtain ⟨n, hn, e⟩ := inb_ex (by omega) z
      have e2 : cc x = n := by rw [e]; exact cc_nI (by omega)
      refine (hw'.psh (m' := tns s m (cc x)) (us' := if cc x = 0 then us else (m :: us).take 12) ((tns_ok w1 w2 (cc x)).mono (by omega)) ?_).row' (by unfold pRow; simp)
      split
      · exact Or.inl rfl
      · exact Or.inr rfl
    · exact hw')
theorem js_rule (hB : B < 2 ^ 28 - 10000) : JS G B kX11_rule kX12_rule [] := by
  rintro I L r ⟨s, m, us, kp, mk, row, tx, hX, hM, hw⟩
  obtain ⟨w1, w2, w3, w4, w5, w6, w7⟩ := id hw
  have hw' := hw.up (B' := B + 7000) (by omega)
  exact js hX hM (fun Q hQ => fX_rule hX w7 (fun M a b => hQ M _ a b)) (fun J L1 r1 Q hJ hQ => fM_rule hJ w7 (fun M r2 a b c => hQ M r2 (a.up (by omega)) b c)) (by
    have h0 := hw'.tx' (tok_0 (tx := tx))
    unfold fRule
    split
    · exact h0.s' w1 (fun u hu => hu)
    · split
      · exact h0
      · exact h0.s' w1 (fun u hu => hu))
theorem js_tide (hB : B < 2 ^ 28 - 10000) : JS G B kX11_tide kX12_tide [] := by
  rintro I L r ⟨s, m, us, kp, mk, row, tx, hX, hM, hw⟩
  obtain ⟨w1, w2, w3, w4, w5, w6, w7⟩ := id hw
  have hw' := hw.up (B' := B + 7000) (by omega)
  exact js hX hM (fun Q hQ => fX_tide hX w7 (fun M a b => hQ M _ a b)) (fun J L1 r1 Q hJ hQ => fM_tide hJ w7 (fun M r2 a b c => hQ M r2 a b c)) (by
    have h0 := hw'.tx' (tok_0 (tx := tx))
    rcases tide_cases (s := s) (tx := tx) with e | ⟨k, td, a1, a2, a3, e⟩
    · rw [e]; exact h0
    · rw [e]; exact h0.s' (sok_tide w1 a1 a2 a3) (fun u hu => hu))
theorem js_flats (hB : B < 2 ^ 28 - 10000) : JS G B kX11_flats kX12_flats [] := by
  rintro I L r ⟨s, m, us, kp, mk, row, tx, hX, hM, hw⟩
  obtain ⟨w1, w2, w3, w4, w5, w6, w7⟩ := id hw
  have hw' := hw.up (B' := B + 7000) (by omega)
  exact js hX hM (fun Q hQ => fX_flats hX w1 w7 (fun M a b => hQ M _ a b)) (fun J L1 r1 Q hJ hQ => fM_flats hJ w1 (by omega) w7 (fun M r2 a b c => hQ M r2 a b c)) (by
    have h0 := hw'.tx' (tok_0 (tx := tx))
    rcases fFlats_cases (m := m) (us := us) (kp := kp) w7 w1 with e | ⟨v, D, hk, e⟩
    · rw [e]; exact h0
    · rw [e]
      obtain ⟨a, b⟩ := flats_ok w1 hw'.2.1 hk
      exact hw'.new a b)
theorem js_carts (hB : B < 2 ^ 28 - 10000) : JS G B kX11_carts kX12_carts [] := by
  rintro I L r ⟨s, m, us, kp, mk, row, tx, hX, hM, hw⟩
  obtain ⟨w1, w2, w3, w4, w5, w6, w7⟩ := id hw
  have hw' := hw.up (B' := B + 7000) (by omega)
  exact js hX hM (fun Q hQ => fX_carts hX w1 w7 (fun M a b => hQ M _ a b)) (fun J L1 r1 Q hJ hQ => fM_carts hJ w1 (by omega) w7 (fun M r2 a b c => hQ M r2 a b c)) (by
    have h0 := hw'.tx' (tok_0 (tx := tx))
    rcases fCarts_cases (m := m) (us := us) (kp := kp) w7 w1 with e | ⟨v, D, hk, e⟩
    · rw [e]; exact h0
    · rw [e]
      obtain ⟨a, b⟩ := carts_ok w1 hw'.2.1 hk
      exact hw'.new a b)
theorem js_day (hB : B < 2 ^ 28 - 10000) : JS G B kX11_day kX12_day [] := by
  rintro I L r ⟨s, m, us, kp, mk, row, tx, hX, hM, hw⟩
  obtain ⟨w1, w2, w3, w4, w5, w6, w7⟩ := id hw
  have hw' := hw.up (B' := B + 7000) (by omega)
  exact js hX hM (fun Q hQ => fX_day hX w1 w2 (by omega) w7 (fun M a b => hQ M _ a b)) (fun J L1 r1 Q hJ hQ => fM_day hJ w1 w2 (by omega) w7 (fun M r2 a b c => hQ M r2 (a.up (by omega)) b c)) (by
    obtain ⟨a, b, c⟩ := fDay_ok (us := us) w1 w2 w7 w6
    exact ((hw'.psh (a.mono (by omega)) b).row' c).tx' tok_0)
end
