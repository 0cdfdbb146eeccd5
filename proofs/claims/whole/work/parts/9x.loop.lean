/-! THE LAW'S LOOP -/
theorem d_law_23 : rt_dec code 23 [(.iload 4, 2), (.aload_n 0, 1), (.arraylength, 1), (.iconst 5, 1), (.isub, 1), (.if_icmp .gt 1626, 3), (.aload_n 0, 1), (.iload 4, 2), (.iaload, 1), (.bipush 63, 2), (.iand, 1)] := rt_dec_of (by decide +kernel)
theorem d_law_39 : decode code 39 = .ok (.tableswitch 1610 0 44 #[193, 218, 243, 256, 269, 282, 295, 363, 431, 499, 524, 585, 622, 647, 684, 721, 770, 795, 808, 821, 846, 883, 908, 921, 934, 947, 984, 1033, 1082, 1119, 1144, 1181, 1206, 1231, 1268, 1305, 1342, 1355, 1380, 1417, 1442, 1479, 1504, 1529, 1554], 193) := by decide +kernel
theorem d_law_1649 : rt_dec code 1649 [(.iinc 4 5, 3), (.goto (Int.negSucc 1628), 3), (.iconst 1, 1), (.ireturn, 1)] := rt_dec_of (by decide +kernel)
theorem and63 (x : Int32) : ∃ j, j < 64 ∧ x &&& 63 = nI j := by
  refine ⟨x.toBitVec.toNat &&& 63, Nat.lt_of_le_of_lt Nat.and_le_right (by decide), ?_⟩
  apply Int32.toBitVec.inj
  apply BitVec.eq_of_toNat_eq
  show (x.toBitVec &&& 63#32).toNat = (BitVec.ofNat 32 (x.toBitVec.toNat &&& 63)).toNat
  have h : x.toBitVec.toNat &&& 63 < 2 ^ 32 := Nat.lt_of_le_of_lt Nat.and_le_right (by decide)
  rw [BitVec.toNat_ofNat, Nat.mod_eq_of_lt h, BitVec.toNat_and]
  rfl
section
variable {G : rt_G} {p : Program} {l : Launch} {e : Env} {s : State} {m : MethodId} {below : List Frame} {meth : Method} {c : Code} {b LL : Nat} {xs : Nat → Int32}
variable {k n : Nat} {I : rt_I} {L : rt_L} {r : Nat}
theorem lw_sw {B i : Nat} (C : LC G p s m meth c b LL xs) (hl0 : l.stackTraces = false) (hkn : k + 1 ≤ 601024 ∧ n + 6 ≤ 7293034) (hi : i + 4 < LL) (hB : B < 2 ^ 28 - 10000) (hI : INV B I) (next : LN G p l e s m below meth c b (k + 1) (n + 6) B i) (next0 : LN G p l e s m below meth c b k n B i) (j : Nat) (hj : j < 45) : LW G p l e s m below meth c b k n 39 (lv5 G b i) [.int (nI j)] I L r :=
  match j, hj with
  | 0, _ => fun H locs ls hP hS hl => lv_tableIn (x := nI 0) (off := 193) (tgt := 232) C.1.1 C.1.2.1 d_law_39 (by decide) (by decide) (by decide) (by decide) ((lc_sign C ⟨by omega, by omega⟩ hi hB hI next0) H locs ls hP hS hl)
  | 1, _ => fun H locs ls hP hS hl => lv_tableIn (x := nI 1) (off := 218) (tgt := 257) C.1.1 C.1.2.1 d_law_39 (by decide) (by decide) (by decide) (by decide) ((lc_end C ⟨by omega, by omega⟩ hi hB hI next0) H locs ls hP hS hl)
  | 2, _ => fun H locs ls hP hS hl => lv_tableIn (x := nI 2) (off := 243) (tgt := 282) C.1.1 C.1.2.1 d_law_39 (by decide) (by decide) (by decide) (by decide) ((lc_flats C ⟨by omega, by omega⟩ hi hB hI next0) H locs ls hP hS hl)
  | 3, _ => fun H locs ls hP hS hl => lv_tableIn (x := nI 3) (off := 256) (tgt := 295) C.1.1 C.1.2.1 d_law_39 (by decide) (by decide) (by decide) (by decide) ((lc_tide C ⟨by omega, by omega⟩ hi hB hI next0) H locs ls hP hS hl)
  | 4, _ => fun H locs ls hP hS hl => lv_tableIn (x := nI 4) (off := 269) (tgt := 308) C.1.1 C.1.2.1 d_law_39 (by decide) (by decide) (by decide) (by decide) ((lc_carts C ⟨by omega, by omega⟩ hi hB hI next0) H locs ls hP hS hl)
  | 5, _ => fun H locs ls hP hS hl => lv_tableIn (x := nI 5) (off := 282) (tgt := 321) C.1.1 C.1.2.1 d_law_39 (by decide) (by decide) (by decide) (by decide) ((lc_rule C ⟨by omega, by omega⟩ hi hB hI next0) H locs ls hP hS hl)
  | 6, _ => fun H locs ls hP hS hl => lv_tableIn (x := nI 6) (off := 295) (tgt := 334) C.1.1 C.1.2.1 d_law_39 (by decide) (by decide) (by decide) (by decide) ((lc_place C hl0 hkn hi hB hI next) H locs ls hP hS hl)
  | 7, _ => fun H locs ls hP hS hl => lv_tableIn (x := nI 7) (off := 363) (tgt := 402) C.1.1 C.1.2.1 d_law_39 (by decide) (by decide) (by decide) (by decide) ((lc_road C hl0 hkn hi hB hI next) H locs ls hP hS hl)
  | 8, _ => fun H locs ls hP hS hl => lv_tableIn (x := nI 8) (off := 431) (tgt := 470) C.1.1 C.1.2.1 d_law_39 (by decide) (by decide) (by decide) (by decide) ((lc_cart C hl0 hkn hi hB hI next) H locs ls hP hS hl)
  | 9, _ => fun H locs ls hP hS hl => lv_tableIn (x := nI 9) (off := 499) (tgt := 538) C.1.1 C.1.2.1 d_law_39 (by decide) (by decide) (by decide) (by decide) ((lc_patience C ⟨by omega, by omega⟩ hi hB hI next0) H locs ls hP hS hl)
  | 10, _ => fun H locs ls hP hS hl => lv_tableIn (x := nI 10) (off := 524) (tgt := 563) C.1.1 C.1.2.1 d_law_39 (by decide) (by decide) (by decide) (by decide) ((lc_sheet C ⟨by omega, by omega⟩ hi hB hI next0) H locs ls hP hS hl)
  | 11, _ => fun H locs ls hP hS hl => lv_tableIn (x := nI 11) (off := 585) (tgt := 624) C.1.1 C.1.2.1 d_law_39 (by decide) (by decide) (by decide) (by decide) ((lc_out C ⟨by omega, by omega⟩ hi hB hI next0) H locs ls hP hS hl)
  | 12, _ => fun H locs ls hP hS hl => lv_tableIn (x := nI 12) (off := 622) (tgt := 661) C.1.1 C.1.2.1 d_law_39 (by decide) (by decide) (by decide) (by decide) ((lc_round C ⟨by omega, by omega⟩ hi hB hI next0) H locs ls hP hS hl)
  | 13, _ => fun H locs ls hP hS hl => lv_tableIn (x := nI 13) (off := 647) (tgt := 686) C.1.1 C.1.2.1 d_law_39 (by decide) (by decide) (by decide) (by decide) ((lc_chain C ⟨by omega, by omega⟩ hi hB hI next0) H locs ls hP hS hl)
  | 14, _ => fun H locs ls hP hS hl => lv_tableIn (x := nI 14) (off := 684) (tgt := 723) C.1.1 C.1.2.1 d_law_39 (by decide) (by decide) (by decide) (by decide) ((lc_load C ⟨by omega, by omega⟩ hi hB hI next0) H locs ls hP hS hl)
  | 15, _ => fun H locs ls hP hS hl => lv_tableIn (x := nI 15) (off := 721) (tgt := 760) C.1.1 C.1.2.1 d_law_39 (by decide) (by decide) (by decide) (by decide) ((lc_storm C ⟨by omega, by omega⟩ hi hB hI next0) H locs ls hP hS hl)
  | 16, _ => fun H locs ls hP hS hl => lv_tableIn (x := nI 16) (off := 770) (tgt := 809) C.1.1 C.1.2.1 d_law_39 (by decide) (by decide) (by decide) (by decide) ((lc_pass C ⟨by omega, by omega⟩ hi hB hI next0) H locs ls hP hS hl)
  | 17, _ => fun H locs ls hP hS hl => lv_tableIn (x := nI 17) (off := 795) (tgt := 834) C.1.1 C.1.2.1 d_law_39 (by decide) (by decide) (by decide) (by decide) ((lc_day C ⟨by omega, by omega⟩ hi hB hI next0) H locs ls hP hS hl)
  | 18, _ => fun H locs ls hP hS hl => lv_tableIn (x := nI 18) (off := 808) (tgt := 847) C.1.1 C.1.2.1 d_law_39 (by decide) (by decide) (by decide) (by decide) ((lc_undo C ⟨by omega, by omega⟩ hi hB hI next0) H locs ls hP hS hl)
  | 19, _ => fun H locs ls hP hS hl => lv_tableIn (x := nI 19) (off := 821) (tgt := 860) C.1.1 C.1.2.1 d_law_39 (by decide) (by decide) (by decide) (by decide) ((lc_level C ⟨by omega, by omega⟩ hi hB hI next0) H locs ls hP hS hl)
  | 20, _ => fun H locs ls hP hS hl => lv_tableIn (x := nI 20) (off := 846) (tgt := 885) C.1.1 C.1.2.1 d_law_39 (by decide) (by decide) (by decide) (by decide) ((lc_table C ⟨by omega, by omega⟩ hi hB hI next0) H locs ls hP hS hl)
  | 21, _ => fun H locs ls hP hS hl => lv_tableIn (x := nI 21) (off := 883) (tgt := 922) C.1.1 C.1.2.1 d_law_39 (by decide) (by decide) (by decide) (by decide) ((lc_comes C ⟨by omega, by omega⟩ hi hB hI next0) H locs ls hP hS hl)
  | 22, _ => fun H locs ls hP hS hl => lv_tableIn (x := nI 22) (off := 908) (tgt := 947) C.1.1 C.1.2.1 d_law_39 (by decide) (by decide) (by decide) (by decide) ((lc_ebb C ⟨by omega, by omega⟩ hi hB hI next0) H locs ls hP hS hl)
  | 23, _ => fun H locs ls hP hS hl => lv_tableIn (x := nI 23) (off := 921) (tgt := 960) C.1.1 C.1.2.1 d_law_39 (by decide) (by decide) (by decide) (by decide) ((lc_slack C ⟨by omega, by omega⟩ hi hB hI next0) H locs ls hP hS hl)
  | 24, _ => fun H locs ls hP hS hl => lv_tableIn (x := nI 24) (off := 934) (tgt := 973) C.1.1 C.1.2.1 d_law_39 (by decide) (by decide) (by decide) (by decide) ((lc_period C ⟨by omega, by omega⟩ hi hB hI next0) H locs ls hP hS hl)
  | 25, _ => fun H locs ls hP hS hl => lv_tableIn (x := nI 25) (off := 947) (tgt := 986) C.1.1 C.1.2.1 d_law_39 (by decide) (by decide) (by decide) (by decide) ((lc_soonest C ⟨by omega, by omega⟩ hi hB hI next0) H locs ls hP hS hl)
  | 26, _ => fun H locs ls hP hS hl => lv_tableIn (x := nI 26) (off := 984) (tgt := 1023) C.1.1 C.1.2.1 d_law_39 (by decide) (by decide) (by decide) (by decide) ((lc_latest C ⟨by omega, by omega⟩ hi hB hI next0) H locs ls hP hS hl)
  | 27, _ => fun H locs ls hP hS hl => lv_tableIn (x := nI 27) (off := 1033) (tgt := 1072) C.1.1 C.1.2.1 d_law_39 (by decide) (by decide) (by decide) (by decide) ((lc_safe C ⟨by omega, by omega⟩ hi hB hI next0) H locs ls hP hS hl)
  | 28, _ => fun H locs ls hP hS hl => lv_tableIn (x := nI 28) (off := 1082) (tgt := 1121) C.1.1 C.1.2.1 d_law_39 (by decide) (by decide) (by decide) (by decide) ((lc_within C ⟨by omega, by omega⟩ hi hB hI next0) H locs ls hP hS hl)
  | 29, _ => fun H locs ls hP hS hl => lv_tableIn (x := nI 29) (off := 1119) (tgt := 1158) C.1.1 C.1.2.1 d_law_39 (by decide) (by decide) (by decide) (by decide) ((lc_cutoff C ⟨by omega, by omega⟩ hi hB hI next0) H locs ls hP hS hl)
  | 30, _ => fun H locs ls hP hS hl => lv_tableIn (x := nI 30) (off := 1144) (tgt := 1183) C.1.1 C.1.2.1 d_law_39 (by decide) (by decide) (by decide) (by decide) ((lc_carrier C ⟨by omega, by omega⟩ hi hB hI next0) H locs ls hP hS hl)
  | 31, _ => fun H locs ls hP hS hl => lv_tableIn (x := nI 31) (off := 1181) (tgt := 1220) C.1.1 C.1.2.1 d_law_39 (by decide) (by decide) (by decide) (by decide) ((lc_inns C ⟨by omega, by omega⟩ hi hB hI next0) H locs ls hP hS hl)
  | 32, _ => fun H locs ls hP hS hl => lv_tableIn (x := nI 32) (off := 1206) (tgt := 1245) C.1.1 C.1.2.1 d_law_39 (by decide) (by decide) (by decide) (by decide) ((lc_arrives C ⟨by omega, by omega⟩ hi hB hI next0) H locs ls hP hS hl)
  | 33, _ => fun H locs ls hP hS hl => lv_tableIn (x := nI 33) (off := 1231) (tgt := 1270) C.1.1 C.1.2.1 d_law_39 (by decide) (by decide) (by decide) (by decide) ((lc_best C ⟨by omega, by omega⟩ hi hB hI next0) H locs ls hP hS hl)
  | 34, _ => fun H locs ls hP hS hl => lv_tableIn (x := nI 34) (off := 1268) (tgt := 1307) C.1.1 C.1.2.1 d_law_39 (by decide) (by decide) (by decide) (by decide) ((lc_could C ⟨by omega, by omega⟩ hi hB hI next0) H locs ls hP hS hl)
  | 35, _ => fun H locs ls hP hS hl => lv_tableIn (x := nI 35) (off := 1305) (tgt := 1344) C.1.1 C.1.2.1 d_law_39 (by decide) (by decide) (by decide) (by decide) ((lc_mark C ⟨by omega, by omega⟩ hi hB hI next0) H locs ls hP hS hl)
  | 36, _ => fun H locs ls hP hS hl => lv_tableIn (x := nI 36) (off := 1342) (tgt := 1381) C.1.1 C.1.2.1 d_law_39 (by decide) (by decide) (by decide) (by decide) ((lc_wash C ⟨by omega, by omega⟩ hi hB hI next0) H locs ls hP hS hl)
  | 37, _ => fun H locs ls hP hS hl => lv_tableIn (x := nI 37) (off := 1355) (tgt := 1394) C.1.1 C.1.2.1 d_law_39 (by decide) (by decide) (by decide) (by decide) ((lc_fits C ⟨by omega, by omega⟩ hi hB hI next0) H locs ls hP hS hl)
  | 38, _ => fun H locs ls hP hS hl => lv_tableIn (x := nI 38) (off := 1380) (tgt := 1419) C.1.1 C.1.2.1 d_law_39 (by decide) (by decide) (by decide) (by decide) ((lc_read C ⟨by omega, by omega⟩ hi hB hI next0) H locs ls hP hS hl)
  | 39, _ => fun H locs ls hP hS hl => lv_tableIn (x := nI 39) (off := 1417) (tgt := 1456) C.1.1 C.1.2.1 d_law_39 (by decide) (by decide) (by decide) (by decide) ((lc_lookat C ⟨by omega, by omega⟩ hi hB hI next0) H locs ls hP hS hl)
  | 40, _ => fun H locs ls hP hS hl => lv_tableIn (x := nI 40) (off := 1442) (tgt := 1481) C.1.1 C.1.2.1 d_law_39 (by decide) (by decide) (by decide) (by decide) ((lc_years C ⟨by omega, by omega⟩ hi hB hI next0) H locs ls hP hS hl)
  | 41, _ => fun H locs ls hP hS hl => lv_tableIn (x := nI 41) (off := 1479) (tgt := 1518) C.1.1 C.1.2.1 d_law_39 (by decide) (by decide) (by decide) (by decide) ((lc_keep C ⟨by omega, by omega⟩ hi hB hI next0) H locs ls hP hS hl)
  | 42, _ => fun H locs ls hP hS hl => lv_tableIn (x := nI 42) (off := 1504) (tgt := 1543) C.1.1 C.1.2.1 d_law_39 (by decide) (by decide) (by decide) (by decide) ((lc_again C ⟨by omega, by omega⟩ hi hB hI next0) H locs ls hP hS hl)
  | 43, _ => fun H locs ls hP hS hl => lv_tableIn (x := nI 43) (off := 1529) (tgt := 1568) C.1.1 C.1.2.1 d_law_39 (by decide) (by decide) (by decide) (by decide) ((lc_count C ⟨by omega, by omega⟩ hi hB hI next0) H locs ls hP hS hl)
  | 44, _ => fun H locs ls hP hS hl => lv_tableIn (x := nI 44) (off := 1554) (tgt := 1593) C.1.1 C.1.2.1 d_law_39 (by decide) (by decide) (by decide) (by decide) ((lc_row C hl0 hkn hi hB hI next) H locs ls hP hS hl)
  | j + 45, h => absurd h (by omega)
theorem lw_loop (C : LC G p s m meth c b LL xs) (hl0 : l.stackTraces = false) : ∀ (g j k n B : Nat) (I : rt_I) (L : rt_L) (r : Nat), j + g = 513 → 5 * j ≤ LL → k + g ≤ 601024 → n + 6 * g ≤ 7293034 → B + 7000 * g ≤ 4000000 → INV B I → LW G p l e s m below meth c b k n 23 (lv5 G b (5 * j)) [] I L r
  | 0, j, k, n, B, I, L, r, hg, h5, h1, h2, h3, hI => by
    have := C.2.1
    omega
  | g + 1, j, k, n, B, I, L, r, hg, h5, h1, h2, h3, hI => by
    intro H locs ls hP hS hl
    have hLL := C.2.1
    obtain ⟨hx, hb, hr, hml, hown, hts, hX, hbl, hlocks, hgv⟩ := id C.1
    have hbA : ¬ (fun q : Nat => s.heap.size ≤ q) b := Nat.not_le.mpr hbl
    obtain ⟨e0, e1, e2, e3, e4, e5, e6, e7, e8, e9, e10, -⟩ := d_law_23
    obtain ⟨f0, f1, f2, f3, -⟩ := d_law_1649
    refine lv_iload hx hb e0 (lv_at hl 4 rfl) ?_
    refine lv_aload_n hx hb e1 rfl (lv_at hl 0 rfl) ?_
    refine va_slen hx hb hX hbl hbA hS e2 ?_
    refine lv_iconst (v := 5) hx hb e3 (by decide) ?_
    refine lv_isub hx hb e4 ?_
    refine lv_icmp_gt (tgt := 1655) hx hb e5 (by decide) (fun z => ?_) (fun z => ?_)
    · refine lv_iconst (v := 1) hx hb f2 (by decide) ?_
      refine va_forget (fun q hq => hS.2.2 q hq) ?_
      refine W.widen (k := 601024) (n := 7293034) (by omega) (by omega) ?_
      exact lw_ret hx hb hr hlocks f3
    have hi : 5 * j + 4 < LL := by
      rcases Nat.lt_or_ge (5 * j + 4) LL with q | q
      · exact q
      · refine absurd ?_ z
        show nI LL - 5 < nI (5 * j)
        rw [Int32.lt_iff_toInt_lt, Int32.toInt_sub, nI_toInt (by omega), nI_toInt (by omega), show (5 : Int32).toInt = 5 by decide, Int.bmod_def]
        omega
    refine lv_aload_n hx hb e6 rfl (lv_at hl 0 rfl) ?_
    refine lv_iload hx hb e7 (lv_at hl 4 rfl) ?_
    refine va_sld hx hb hX hbl hbA hS (vp_in_nI (show 5 * j < LL by omega) (by omega)) e8 ?_
    rw [nI_clamp (by omega)]
    refine lv_bipush (v := 63) hx hb e9 (by decide) ?_
    refine lv_iand hx hb e10 ?_
    obtain ⟨y, hy, ey⟩ := and63 (xs (5 * j))
    rw [ey]
    have nx : ∀ k' n', k' + g ≤ 601024 → n' + 6 * g ≤ 7293034 → LN G p l e s m below meth c b k' n' B (5 * j) := by
      intro k' n' a1 a2 I2 L2 r2 hI2 H2 locs2 ls2 hP2 hS2 hl2
      refine lv_iinc (v := nI (5 * (j + 1))) (lv' := [(4, .int (nI (5 * (j + 1)))), (0, .ref b), (1, .ref (G.2.2.2 0)), (2, .ref (G.2.2.2 108)), (3, .ref (G.2.2.2 135))]) hx hb f0 hl2 (k := 4) rfl ?_ (by decide) rfl (fun ls3 hl3 => ?_)
      · show nI (5 * j) + nI 5 = nI (5 * (j + 1))
        rw [nI_add]
        exact congrArg nI (by omega)
      · refine lv_goto (tgt := 23) hx hb f1 (by decide) ?_
        exact lw_loop C hl0 g (j + 1) k' n' (B + 7000) I2 L2 r2 (by omega) (by omega) a1 a2 (by omega) hI2 H2 locs2 ls3 hP2 hS2 (lv_sub hl3 [1, 2, 3, 4, 0] rfl)
    rcases Nat.lt_or_ge y 45 with q | q
    · exact lw_sw C hl0 ⟨by omega, by omega⟩ hi (by omega) hI (nx (k + 1) (n + 6) (by omega) (by omega)) (nx k n (by omega) (by omega)) y q H locs ls hP hS hl
    · refine lv_tableOut (tgt := 1649) hx hb d_law_39 (Or.inr ?_) (by decide) ?_
      · rw [nI_toInt (by omega)]
        omega
      · obtain ⟨s1, m1, us1, kp1, mk1, row1, tx1, u1, u2, u3⟩ := id hI
        exact nx k n (by omega) (by omega) I L r ⟨s1, m1, us1, kp1, mk1, row1, tx1, u1, u2.up (by omega), u3.up (by omega)⟩ H locs ls hP hS hl
end
