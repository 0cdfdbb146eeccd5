/-! THE FOUR THAT MAY THROW, both sides; the law's cases of them -/
def JT (G : rt_G) (B : Nat) (kS km : rt_K) (nh : Nat) (as : List Value) : Prop := ∀ (I : rt_I) (L : rt_L) (r : Nat), INV B I → sCall G 200 kS nh (.ref 0 :: (as ++ [.ref 135])) I L r (fun a I1 L1 r1 => rt_Call G 200 km (.ref 108 :: as) I1 L1 r1 (fun w I2 L2 r2 => INV (B + 7000) I2 ∧ I2 108 14 = a ∧ (a = 1 ∨ a = 0 ∧ L2 135 0 = w.toInt64)))
section
variable {G : rt_G} {B : Nat} {s : SV} {m : MO} {us : List MO} {kp : Nat → Option MO} {mk : MKT} {row : List Int32} {tx : TXT} {I M : rt_I} {L : rt_L}
theorem uL_at {c : Nat} {v : Int64} : rt_uL L c 0 v c 0 = v := by rw [rt_uL_eq]; simp [vp_updL]
theorem inb_nI {k n : Nat} (hn : n < 1000) (h : k < n) : inb (nI k) n = true := inb_iff.mpr ((inr_iff hn).mpr ⟨k, h, rfl⟩)
theorem js_end4 (hX : XI s m us kp mk row tx I) (hw : wf B s m us kp mk row tx) (hM : MI B s m us kp mk row tx M) (hLo : Lo M I) : INV (B + 7000) M :=
  ⟨s, m, us, kp, mk, row, tx, hX.keep hLo, hM.up (by omega), hw.up (by omega)⟩
theorem jt_place (x y : Int32) (hB : B < 2 ^ 28 - 10000) : JT G B kS_place kX12_place 10 [.int x, .int y] := by
  rintro I L r ⟨s, m, us, kp, mk, row, tx, hX, hM, hw⟩
  obtain ⟨w1, w2, w3, w4, w5, w6, w7⟩ := id hw
  have h8 := w1.1
  refine s_three (K' := kX11_place) (ix := 7) rfl rfl rfl (rt_dec_of (by decide +kernel)) (rt_at 1174 (by decide +kernel) (by decide +kernel)) okX11_place (fun _ _ => rfl) ?_
  refine qX11_place (d := 196) hX w1 (fun z => ?_) (fun p k hp hk ex ey => ?_)
  · exact fM_place (d := 196) hM w1 w2 (fun _ M r' a b c => ⟨js_end4 hX hw a b, c, Or.inl rfl⟩) (fun p k hp hk ex ey => absurd ⟨by rw [ex]; exact inb_nI (by omega) hp, by rw [ey]; exact inb_nI (by omega) hk⟩ z)
  · refine fM_place (d := 196) hM w1 w2 (fun z => absurd ⟨by rw [ex]; exact inb_nI (by omega) hp, by rw [ey]; exact inb_nI (by omega) hk⟩ z) (fun p' k' hp' hk' ex' ey' M r' a b c => ⟨js_end4 hX hw a b, c, Or.inr ⟨rfl, ?_⟩⟩)
    have e1 := (n_eq ex ex' (by omega) (by omega)).mp rfl
    have e2 := (n_eq ey ey' (by omega) (by omega)).mp rfl
    subst e1
    subst e2
    exact uL_at
theorem jt_cart (x y : Int32) (hB : B < 2 ^ 28 - 10000) : JT G B kS_cart kX12_cart 10 [.int x, .int y] := by
  rintro I L r ⟨s, m, us, kp, mk, row, tx, hX, hM, hw⟩
  obtain ⟨w1, w2, w3, w4, w5, w6, w7⟩ := id hw
  have h8 := w1.2.2.1
  refine s_three (K' := kX11_cart) (ix := 18) rfl rfl rfl (rt_dec_of (by decide +kernel)) (rt_at 1254 (by decide +kernel) (by decide +kernel)) okX11_cart (fun _ _ => rfl) ?_
  refine qX11_cart (d := 196) hX w1 (fun z => ?_) (fun p k hp hk ex ey => ?_)
  · exact fM_cart (d := 196) hM w1 (fun _ M r' a b c => ⟨js_end4 hX hw a b, c, Or.inl rfl⟩) (fun p k hp hk ex ey => absurd ⟨by rw [ex]; exact inb_nI (by omega) hp, by rw [ey]; exact inb_nI (by omega) hk⟩ z)
  · refine fM_cart (d := 196) hM w1 (fun z => absurd ⟨by rw [ex]; exact inb_nI (by omega) hp, by rw [ey]; exact inb_nI (by omega) hk⟩ z) (fun p' k' hp' hk' ex' ey' M r' a b c => ⟨js_end4 hX hw a b, c, Or.inr ⟨rfl, ?_⟩⟩)
    have e1 := (n_eq ex ex' (by omega) (by omega)).mp rfl
    have e2 := (n_eq ey ey' (by omega) (by omega)).mp rfl
    subst e1
    subst e2
    exact uL_at
theorem jt_row (x : Int32) (hB : B < 2 ^ 28 - 10000) : JT G B kS_row kX12_row 9 [.int x] := by
  rintro I L r ⟨s, m, us, kp, mk, row, tx, hX, hM, hw⟩
  obtain ⟨w1, w2, w3, w4, w5, w6, w7⟩ := id hw
  refine s_two (K' := kX11_row) (ix := 21) rfl rfl rfl (rt_dec_of (by decide +kernel)) (rt_at 1261 (by decide +kernel) (by decide +kernel)) okX11_row (fun _ _ => rfl) ?_
  refine qX11_row (d := 196) hX w6 (fun z => ?_) (fun k hk ex => ?_)
  · exact fM_row (d := 196) hM w6 (fun _ M r' a b c => ⟨js_end4 hX hw a b, c, Or.inl rfl⟩) (fun k hk ex => absurd (by rw [ex]; exact inb_nI (by omega) hk) z)
  · refine fM_row (d := 196) hM w6 (fun z => absurd (by rw [ex]; exact inb_nI (by omega) hk) z) (fun k' hk' ex' M r' a b c => ⟨js_end4 hX hw a b, c, Or.inr ⟨rfl, ?_⟩⟩)
    have e1 := (n_eq ex ex' (by omega) (by omega)).mp rfl
    subst e1
    exact uL_at
theorem jt_road (x y : Int32) (hB : B < 2 ^ 28 - 10000) : JT G B kS_road kX12_road 10 [.int x, .int y] := by
  rintro I L r ⟨s, m, us, kp, mk, row, tx, hX, hM, hw⟩
  obtain ⟨w1, w2, w3, w4, w5, w6, w7⟩ := id hw
  have h12 := w1.2.1
  refine s_three (K' := kX11_road) (ix := 15) rfl rfl rfl (rt_dec_of (by decide +kernel)) (rt_at 1247 (by decide +kernel) (by decide +kernel)) okX11_road (fun _ _ => rfl) ?_
  refine qX11_road (d := 196) hX w1 w2 (fun z => ?_) (fun p k hp hk ex ey M0 hF => ?_)
  · exact fM_road (d := 68) hM w1 w2 (fun _ M r' a b c => ⟨js_end4 hX hw a b, c, Or.inl rfl⟩) (fun p k hp hk ex ey => absurd ⟨by rw [ex]; exact inb_nI (by omega) hp, by rw [ey]; exact inb_nI (by omega) hk⟩ z)
  · have hX0 : XI s m us kp mk row tx M0 := hX.q (hF.mono (by decide)) (by rw [hF 20 (by decide)]) (by rw [hF 38 (by decide)]) (hX.2.2.2.2.2.1.fr (hF 42 (by decide)) (hF 43 (by decide)))
    have hM0 : MI B s m us kp mk row tx M0 := hM.keep (fun c hc => hF c (fun z => by simp only [List.mem_cons, List.not_mem_nil, or_false] at z; omega))
    refine fM_road (d := 68) hM0 w1 w2 (fun z => absurd ⟨by rw [ex]; exact inb_nI (by omega) hp, by rw [ey]; exact inb_nI (by omega) hk⟩ z) (fun p' k' hp' hk' ex' ey' M r' a b c => ⟨js_end4 hX0 hw a b, c, Or.inr ⟨rfl, ?_⟩⟩)
    have e1 := (n_eq ex ex' (by omega) (by omega)).mp rfl
    have e2 := (n_eq ey ey' (by omega) (by omega)).mp rfl
    subst e1
    subst e2
    exact uL_at
end
section
variable {G : rt_G} {p : Program} {l : Launch} {e : Env} {s : State} {m : MethodId} {below : List Frame} {meth : Method} {c : Code} {b LL : Nat} {xs : Nat → Int32}
variable {k n pc : Nat} {lv lv' : List (Nat × Value)} {st : List Value} {I : rt_I} {L : rt_L} {r : Nat}
theorem lw_ok (C : LC G p s m meth c b LL xs) : xOK (fun q : Nat => s.heap.size ≤ q) s s.heap := by
  have hts := C.1.2.2.2.2.2.1
  have hg := flat_of_before _ C.1.2.2.2.2.2.2.2.2.2
  have hA : ∀ a : Nat, a < s.heap.size → ¬ (fun q : Nat => s.heap.size ≤ q) a := fun a h => Nat.not_le.mpr h
  have hi : (Cond.initialized Bundle.tN).before #[Value.ref b] s = true := hts _ (List.mem_of_getElem? (i := 95) (by decide +kernel))
  exact ⟨⟨vx_Zqof (hts _ (List.mem_of_getElem? (i := 1205) (by decide +kernel))) hi (hg _ (by decide +kernel)) hA, vx_Zqof (hts _ (List.mem_of_getElem? (i := 1207) (by decide +kernel))) hi (hg _ (by decide +kernel)) hA⟩, va_Nw.of rfl (hts _ xW_tbl.1), va_Nw.of rfl (hts _ xW_tbl.2.1), va_Nw.of rfl (hts _ xW_tbl.2.2.1), va_Nw.of rfl (hts _ xW_tbl.2.2.2)⟩
theorem LW.istore {i : Nat} {x : Int32} (C : LC G p s m meth c b LL xs) (hd : decode code pc = .ok (.istore i, 2)) (hi : i < 7) (hf : (i, Value.int x) :: lv.filter (fun q => !(q.1 == i) && !(q.1 + 1 == i && q.2.category == 2)) = lv') (h : LW G p l e s m below meth c b k n (pc + 2) lv' st I L r) : LW G p l e s m below meth c b k n pc lv (.int x :: st) I L r := by
  intro H locs ls hP hS hl
  exact lv_istore C.1.1 C.1.2.1 hd hl hi hf (fun ls2 hl2 => h H locs ls2 hP hS hl2)
theorem LW.iload {i place : Nat} {x : Int32} (C : LC G p s m meth c b LL xs) (hd : decode code pc = .ok (.iload i, 2)) (hv : lv[place]? = some (i, .int x)) (h : LW G p l e s m below meth c b k n (pc + 2) lv (.int x :: st) I L r) : LW G p l e s m below meth c b k n pc lv st I L r := by
  intro H locs ls hP hS hl
  exact lv_iload C.1.1 C.1.2.1 hd (lv_at hl place hv) (h H locs ls hP hS hl)
theorem LW.locs (hl' : ∀ ls, lv_has ls 7 lv → lv_has ls 7 lv') (h : LW G p l e s m below meth c b k n pc lv' st I L r) : LW G p l e s m below meth c b k n pc lv st I L r := fun H locs ls hP hS hl => h H locs ls hP hS (hl' ls hl)
theorem LW.calls {K : rt_K} {nn nh x : Nat} {av t : List Value} {Q' : rt_Q} (C : LC G p s m meth c b LL xs) (hl0 : l.stackTraces = false) (hkn : k + 1 ≤ 601024 ∧ n + 6 ≤ 7293034) (hcls : K.1.cls = R_law) (hw1 : Cond.methodLink R_law x K.1 ∈ rt_tbl) (hw2 : Cond.static K.1 ∈ rt_tbl) (hw3 : Cond.codeWith K.1 K.2.1 K.2.2.1 K.2.2.2 (sHH nh) ∈ rt_tbl) (hpd : (parseMethodDescriptor K.1.desc).map (fun d => d.parameters.length) = some nn) (hml : K.2.2.1 ≤ 41) (hn : av.length = nn) (hsm : rt_sm t ≤ 8) (hd : decode code pc = .ok (.invokestatic x, 3))
    (hc : sCall G 200 K nh av I L r Q') (h : ∀ v I' L' r', Q' v I' L' r' → LW G p l e s m below meth c b (k + 1) (n + 6) (pc + 3) lv (rt_pu K v t) I' L' r') : LW G p l e s m below meth c b k n pc lv (av.reverse ++ t) I L r := by
  intro H locs ls hP hS hl
  have hK := C.2.2.1
  have A0 := C.1
  have hO := lw_ok C
  have hG : GoodIn rt_tbl (va_wsS R_law x K.1 (sws K nh)) := by
    intro w hw
    have : w ∈ rt_tbl := by
      rcases List.mem_append.mp hw with q | q
      · simp only [List.mem_cons, List.not_mem_nil, or_false] at q
        rcases q with rfl | rfl | rfl
        · exact hw1
        · exact hw2
        · rw [hcls]
          exact rt_at 79 (by decide +kernel) (by decide +kernel)
      · rcases List.mem_cons.mp q with rfl | q
        · exact hw3
        · exact q
    exact ⟨this, good_of_word (rt_good _ this)⟩
  have cw : vx_CSW room_1 s #[Value.ref b] R_law x K.1 K.2.1 K.2.2.1 K.2.2.2 (sHH nh) (sws K nh) (srm 200) 1 6 nn :=
    vx_cwSW nn (lw_ts C) hG rfl rfl rfl ⟨by rw [hcls]; decide, by rw [hcls]; decide, hpd⟩ ⟨by show 209 + 1 ≤ 2048; omega, by show 8 + (K.2.2.1 + 11) + (80 * (200 + 8) + 100) ≤ 84000; omega⟩
  have hrun := vx_runSW (l := l) (R := room_1) (below := below) (meth := meth) (H := H) (locs := locs) (cells := k) (slots := n) (e := e) (As := av.map (rt_v G.2.2.2)) (rest := t.map (rt_v G.2.2.2)) (g := F0 m pc ls ((av.reverse ++ t).map (rt_v G.2.2.2))) ⟨A0.1, A0.2.1, A0.2.2.2.1, A0.2.2.2.2.1, lw_ts C⟩ (hc l hl0) cw
    ⟨xs_blind, fun U hU hW => ⟨rfl, ⟨by rw [hU]; exact hP, rt_K_moved hW.alike hK, C.2.2.2.1⟩, by
      rw [hU]
      exact ((hO.kept (fun a ha hn => hS.2.1 a ha hn)).moved hW.alike).narrow C.2.2.2.2⟩⟩ rfl (by rw [List.length_map]; exact hn) hl.1 (by simp [rt_v]) (lv_room (by rw [rt_sm_map]; exact hsm)) hd hkn
  intro T hT X
  obtain ⟨v, st₀, t1, T', L9, h0, X', hL, e1, e2, ⟨⟨v1, I', L', r', hv, hq, hP'⟩, hz, hkp⟩, st⟩ := hrun T hT X
  rw [h0] at hz hkp
  have hv1 : v = rt_rv K v1 := by cases hv; rfl
  have hw : v.toList ++ t.map (rt_v G.2.2.2) = (rt_pu K v1 t).map (rt_v G.2.2.2) := by
    rw [hv1]
    unfold rt_rv rt_pu
    cases K.2.2.2 <;> rfl
  obtain ⟨t2, a1, b1⟩ := h v1 I' L' r' hq T'.heap (locs ++ L9) ls (by rw [e1]; exact hP') ⟨Nat.le_trans hS.1 (by rw [e1]; exact hz), fun q h1 h2 => by rw [e1, hkp q (Nat.lt_of_lt_of_le h1 hS.1) (fun y => h2 (C.2.2.2.2 q y))]; exact hS.2.1 q h1 h2, fun q hq => by
      rcases List.mem_append.mp hq with h | h
      · exact hS.2.2 q h
      · exact C.2.2.2.2 _ (hL q h)⟩ hl T' rfl X'
  refine ⟨t2, st t2 ?_, b1⟩
  rw [hw]
  exact a1
theorem LW.tail {i B : Nat} {a w : Int32} {off : Int} (C : LC G p s m meth c b LL xs) (hkn : k ≤ 601024 ∧ n ≤ 7293034)
    (hd : rt_dec code pc [(.istore 6, 2), (.aload_n 2, 1), (.invokevirtual 61, 3), (.iload 5, 2), (.if_icmp .eq 5, 3), (.iconst 0, 1), (.ireturn, 1), (.iload 5, 2), (.ifCond .ne 15, 3), (.aload_n 3, 1), (.iconst 0, 1), (.laload, 1), (.iload 6, 2), (.i2l, 1), (.lcmp, 1), (.ifCond .eq 5, 3), (.iconst 0, 1), (.ireturn, 1), (.goto off, 3)])
    (ht : ((pc + 30 : Nat) : Int) + off = ((1649 : Nat) : Int)) (h14 : I 108 14 = a) (hr : a = 1 ∨ a = 0 ∧ L 135 0 = w.toInt64) (next : LW G p l e s m below meth c b k n 1649 (lv5 G b i) [] I L r) : LW G p l e s m below meth c b k n pc ((5, .int a) :: lv5 G b i) [.int w] I L r := by
  obtain ⟨d0, d1, d2, d3, d4, d5, d6, d7, d8, d9, d10, d11, d12, d13, d14, d15, d16, d17, d18, -⟩ := hd
  have fin : LW G p l e s m below meth c b k n (pc + 30) ((6, .int w) :: (5, .int a) :: lv5 G b i) [] I L r := LW.goto C d18 ht (LW.locs (fun ls hl => lv_sub hl [2, 3, 4, 5, 6] rfl) next)
  refine LW.istore (lv' := (6, .int w) :: (5, .int a) :: lv5 G b i) C d0 (by decide) rfl ?_
  refine LW.ref (i := 2) (q := 108) (place := 4) C d1 rfl rfl ?_
  refine LW.callv (d := 200) (K' := kX12_thrown) (q := 108) (ci := 12) (as := []) (t := []) (Q' := fun v I' L' r' => v = a ∧ I' = I ∧ L' = L ∧ r' = r) C hkn (by omega) (rt_at 1441 (by decide +kernel) (by decide +kernel)) okX12_thrown rfl (by decide) (by decide) d2 (v_X12_thrown _ _ _ ⟨h14, rfl, rfl, rfl⟩) ?_
  rintro v I' L' r' ⟨rfl, rfl, rfl, rfl⟩
  refine LW.iload (x := v) (place := 1) C d3 rfl ?_
  refine LW.eq (tgt := pc + 13) C d4 (by omega) ?_
  refine LW.iload (x := v) (place := 1) C d7 rfl ?_
  intro H locs ls hP hS hl
  refine lv_if_ne (tgt := pc + 30) C.1.1 C.1.2.1 d8 (by omega) (fun z => fin H locs ls hP hS hl) (fun z => ?_)
  rcases hr with rfl | ⟨-, hr⟩
  · exact absurd z (by decide)
  have hK := C.2.2.1
  have he2 := rt_W_at (G := G) (I := I') (L := L') (r := r') (show 135 < rt_NC by decide)
  rw [rt_en_l (c := 135) rfl] at he2
  refine lv_aload_n C.1.1 C.1.2.1 d9 rfl (lv_at hl 5 rfl) ?_
  refine lv_iconst (v := nI 0) C.1.1 C.1.2.1 d10 rfl ?_
  refine va_lald C.1.1 C.1.2.1 hK hP 135 3 he2 rfl (vp_nI rfl (show 0 < 1 by decide) (by decide)) d11 ?_
  refine lv_iload C.1.1 C.1.2.1 d12 (lv_at hl 0 rfl) ?_
  refine lv_i2l C.1.1 C.1.2.1 d13 rfl ?_
  refine W.lcmp C.1.1 C.1.2.1 d14 ?_
  refine lv_if_eq (tgt := pc + 30) C.1.1 C.1.2.1 d15 (by omega) (fun z => fin H locs ls hP hS hl) (fun z => absurd ?_ z)
  show lg_cmp (L' 135 0) w.toInt64 = 0
  rw [hr]
  unfold lg_cmp
  simp
theorem LW.four3 {kS km : rt_K} {ix iy nh pc i B : Nat} {off : Int} (C : LC G p s m meth c b LL xs) (hl0 : l.stackTraces = false) (hkn : k + 1 ≤ 601024 ∧ n + 6 ≤ 7293034) (hi : i + 4 < LL) (js : JT G B kS km nh [.int (xs (i + 1)), .int (xs (i + 2))]) (hI : INV B I)
    (hcls : kS.1.cls = R_law) (hw1 : Cond.methodLink R_law ix kS.1 ∈ rt_tbl) (hw2 : Cond.static kS.1 ∈ rt_tbl) (hw3 : Cond.codeWith kS.1 kS.2.1 kS.2.2.1 kS.2.2.2 (sHH nh) ∈ rt_tbl) (hpd : (parseMethodDescriptor kS.1.desc).map (fun d => d.parameters.length) = some 4) (hml : kS.2.2.1 ≤ 41)
    (hwy : Cond.methodLink R_law iy km.1 ∈ rt_tbl) (oky : rt_okK km 2 (some 12)) (px : ∀ v t, rt_pu kS v t = .int v :: t) (py : ∀ v t, rt_pu km v t = .int v :: t)
    (hd : rt_dec code pc [(.aload_n 1, 1), (.aload_n 0, 1), (.iload 4, 2), (.iconst 1, 1), (.iadd, 1), (.iaload, 1), (.aload_n 0, 1), (.iload 4, 2), (.iconst 2, 1), (.iadd, 1), (.iaload, 1), (.aload_n 3, 1), (.invokestatic ix, 3), (.istore 5, 2), (.aload_n 2, 1), (.aload_n 0, 1), (.iload 4, 2), (.iconst 1, 1), (.iadd, 1), (.iaload, 1), (.aload_n 0, 1), (.iload 4, 2), (.iconst 2, 1), (.iadd, 1), (.iaload, 1), (.invokevirtual iy, 3)])
    (hd2 : rt_dec code (pc + 35) [(.istore 6, 2), (.aload_n 2, 1), (.invokevirtual 61, 3), (.iload 5, 2), (.if_icmp .eq 5, 3), (.iconst 0, 1), (.ireturn, 1), (.iload 5, 2), (.ifCond .ne 15, 3), (.aload_n 3, 1), (.iconst 0, 1), (.laload, 1), (.iload 6, 2), (.i2l, 1), (.lcmp, 1), (.ifCond .eq 5, 3), (.iconst 0, 1), (.ireturn, 1), (.goto off, 3)])
    (ht : ((pc + 35 + 30 : Nat) : Int) + off = ((1649 : Nat) : Int)) (next : LN G p l e s m below meth c b (k + 1) (n + 6) B i) : LW G p l e s m below meth c b k n pc (lv5 G b i) [] I L r := by
  obtain ⟨d0, d1, d2, d3, d4, d5, d6, d7, d8, d9, d10, d11, d12, d13, d14, d15, d16, d17, d18, d19, d20, d21, d22, d23, d24, d25, -⟩ := hd
  refine LW.ref (i := 1) (q := 0) (place := 1) C d0 rfl rfl ?_
  refine LW.arg (i := i) (j := 1) C rfl rfl (by omega) rfl d1 d2 d3 d4 d5 ?_
  refine LW.arg (i := i) (j := 2) C rfl rfl (by omega) rfl d6 d7 d8 d9 d10 ?_
  refine LW.ref (i := 3) (q := 135) (place := 3) C d11 rfl rfl ?_
  refine LW.calls (av := [.ref 0, .int (xs (i + 1)), .int (xs (i + 2)), .ref 135]) (t := []) C hl0 hkn hcls hw1 hw2 hw3 hpd hml rfl (by decide) d12 (js I L r hI) (fun v I1 L1 r1 hc => ?_)
  rw [px]
  refine LW.istore (lv' := (5, .int v) :: lv5 G b i) C d13 (by decide) rfl ?_
  refine LW.ref (i := 2) (q := 108) (place := 3) C d14 rfl rfl ?_
  refine LW.locs (lv' := lv5 G b i ++ [(5, .int v)]) (fun ls hl => lv_sub hl [1, 2, 3, 4, 5, 0] rfl) ?_
  refine LW.arg (i := i) (j := 1) C rfl rfl (by omega) rfl d15 d16 d17 d18 d19 ?_
  refine LW.arg (i := i) (j := 2) C rfl rfl (by omega) rfl d20 d21 d22 d23 d24 ?_
  refine LW.callv (d := 200) (q := 108) (ci := 12) (as := [.int (xs (i + 1)), .int (xs (i + 2))]) (t := []) C hkn (by omega) hwy oky rfl (by decide) (by decide) d25 hc (fun w I2 L2 r2 hw => ?_)
  rw [py]
  obtain ⟨hI2, h14, hr⟩ := hw
  refine LW.locs (lv' := (5, .int v) :: lv5 G b i) (fun ls hl => lv_sub hl [5, 0, 1, 2, 3, 4] rfl) ?_
  exact LW.tail (B := B) C hkn hd2 ht h14 hr (next I2 L2 r2 hI2)
theorem LW.four2 {kS km : rt_K} {ix iy nh pc i B : Nat} {off : Int} (C : LC G p s m meth c b LL xs) (hl0 : l.stackTraces = false) (hkn : k + 1 ≤ 601024 ∧ n + 6 ≤ 7293034) (hi : i + 4 < LL) (js : JT G B kS km nh [.int (xs (i + 1))]) (hI : INV B I)
    (hcls : kS.1.cls = R_law) (hw1 : Cond.methodLink R_law ix kS.1 ∈ rt_tbl) (hw2 : Cond.static kS.1 ∈ rt_tbl) (hw3 : Cond.codeWith kS.1 kS.2.1 kS.2.2.1 kS.2.2.2 (sHH nh) ∈ rt_tbl) (hpd : (parseMethodDescriptor kS.1.desc).map (fun d => d.parameters.length) = some 3) (hml : kS.2.2.1 ≤ 41)
    (hwy : Cond.methodLink R_law iy km.1 ∈ rt_tbl) (oky : rt_okK km 1 (some 12)) (px : ∀ v t, rt_pu kS v t = .int v :: t) (py : ∀ v t, rt_pu km v t = .int v :: t)
    (hd : rt_dec code pc [(.aload_n 1, 1), (.aload_n 0, 1), (.iload 4, 2), (.iconst 1, 1), (.iadd, 1), (.iaload, 1), (.aload_n 3, 1), (.invokestatic ix, 3), (.istore 5, 2), (.aload_n 2, 1), (.aload_n 0, 1), (.iload 4, 2), (.iconst 1, 1), (.iadd, 1), (.iaload, 1), (.invokevirtual iy, 3)])
    (hd2 : rt_dec code (pc + 23) [(.istore 6, 2), (.aload_n 2, 1), (.invokevirtual 61, 3), (.iload 5, 2), (.if_icmp .eq 5, 3), (.iconst 0, 1), (.ireturn, 1), (.iload 5, 2), (.ifCond .ne 15, 3), (.aload_n 3, 1), (.iconst 0, 1), (.laload, 1), (.iload 6, 2), (.i2l, 1), (.lcmp, 1), (.ifCond .eq 5, 3), (.iconst 0, 1), (.ireturn, 1), (.goto off, 3)])
    (ht : ((pc + 23 + 30 : Nat) : Int) + off = ((1649 : Nat) : Int)) (next : LN G p l e s m below meth c b (k + 1) (n + 6) B i) : LW G p l e s m below meth c b k n pc (lv5 G b i) [] I L r := by
  obtain ⟨d0, d1, d2, d3, d4, d5, d11, d12, d13, d14, d15, d16, d17, d18, d19, d25, -⟩ := hd
  refine LW.ref (i := 1) (q := 0) (place := 1) C d0 rfl rfl ?_
  refine LW.arg (i := i) (j := 1) C rfl rfl (by omega) rfl d1 d2 d3 d4 d5 ?_
  refine LW.ref (i := 3) (q := 135) (place := 3) C d11 rfl rfl ?_
  refine LW.calls (av := [.ref 0, .int (xs (i + 1)), .ref 135]) (t := []) C hl0 hkn hcls hw1 hw2 hw3 hpd hml rfl (by decide) d12 (js I L r hI) (fun v I1 L1 r1 hc => ?_)
  rw [px]
  refine LW.istore (lv' := (5, .int v) :: lv5 G b i) C d13 (by decide) rfl ?_
  refine LW.ref (i := 2) (q := 108) (place := 3) C d14 rfl rfl ?_
  refine LW.locs (lv' := lv5 G b i ++ [(5, .int v)]) (fun ls hl => lv_sub hl [1, 2, 3, 4, 5, 0] rfl) ?_
  refine LW.arg (i := i) (j := 1) C rfl rfl (by omega) rfl d15 d16 d17 d18 d19 ?_
  refine LW.callv (d := 200) (q := 108) (ci := 12) (as := [.int (xs (i + 1))]) (t := []) C hkn (by omega) hwy oky rfl (by decide) (by decide) d25 hc (fun w I2 L2 r2 hw => ?_)
  rw [py]
  obtain ⟨hI2, h14, hr⟩ := hw
  refine LW.locs (lv' := (5, .int v) :: lv5 G b i) (fun ls hl => lv_sub hl [5, 0, 1, 2, 3, 4] rfl) ?_
  exact LW.tail (B := B) C hkn hd2 ht h14 hr (next I2 L2 r2 hI2)
theorem lc_place {B i : Nat} (C : LC G p s m meth c b LL xs) (hl0 : l.stackTraces = false) (hkn : k + 1 ≤ 601024 ∧ n + 6 ≤ 7293034) (hi : i + 4 < LL) (hB : B < 2 ^ 28 - 10000) (hI : INV B I) (next : LN G p l e s m below meth c b (k + 1) (n + 6) B i) : LW G p l e s m below meth c b k n 334 (lv5 G b i) [] I L r :=
  LW.four3 (ix := 55) (iy := 60) (off := 1250) C hl0 hkn hi (jt_place (xs (i + 1)) (xs (i + 2)) hB) hI rfl (rt_at 1170 (by decide +kernel) (by decide +kernel)) (rt_at 1171 (by decide +kernel) (by decide +kernel)) (rt_at 1172 (by decide +kernel) (by decide +kernel)) (by decide +kernel) (by decide) (rt_at 1538 (by decide +kernel) (by decide +kernel)) okX12_place (fun _ _ => rfl) (fun _ _ => rfl) (rt_dec_of (by decide +kernel)) (rt_dec_of (by decide +kernel)) (by decide) next
theorem lc_road {B i : Nat} (C : LC G p s m meth c b LL xs) (hl0 : l.stackTraces = false) (hkn : k + 1 ≤ 601024 ∧ n + 6 ≤ 7293034) (hi : i + 4 < LL) (hB : B < 2 ^ 28 - 10000) (hI : INV B I) (next : LN G p l e s m below meth c b (k + 1) (n + 6) B i) : LW G p l e s m below meth c b k n 402 (lv5 G b i) [] I L r :=
  LW.four3 (ix := 64) (iy := 66) (off := 1182) C hl0 hkn hi (jt_road (xs (i + 1)) (xs (i + 2)) hB) hI rfl (rt_at 1244 (by decide +kernel) (by decide +kernel)) (rt_at 1245 (by decide +kernel) (by decide +kernel)) (rt_at 1246 (by decide +kernel) (by decide +kernel)) (by decide +kernel) (by decide) (rt_at 1571 (by decide +kernel) (by decide +kernel)) okX12_road (fun _ _ => rfl) (fun _ _ => rfl) (rt_dec_of (by decide +kernel)) (rt_dec_of (by decide +kernel)) (by decide) next
theorem lc_cart {B i : Nat} (C : LC G p s m meth c b LL xs) (hl0 : l.stackTraces = false) (hkn : k + 1 ≤ 601024 ∧ n + 6 ≤ 7293034) (hi : i + 4 < LL) (hB : B < 2 ^ 28 - 10000) (hI : INV B I) (next : LN G p l e s m below meth c b (k + 1) (n + 6) B i) : LW G p l e s m below meth c b k n 470 (lv5 G b i) [] I L r :=
  LW.four3 (ix := 67) (iy := 69) (off := 1114) C hl0 hkn hi (jt_cart (xs (i + 1)) (xs (i + 2)) hB) hI rfl (rt_at 1251 (by decide +kernel) (by decide +kernel)) (rt_at 1252 (by decide +kernel) (by decide +kernel)) (rt_at 1253 (by decide +kernel) (by decide +kernel)) (by decide +kernel) (by decide) (rt_at 1585 (by decide +kernel) (by decide +kernel)) okX12_cart (fun _ _ => rfl) (fun _ _ => rfl) (rt_dec_of (by decide +kernel)) (rt_dec_of (by decide +kernel)) (by decide) next
theorem lc_row {B i : Nat} (C : LC G p s m meth c b LL xs) (hl0 : l.stackTraces = false) (hkn : k + 1 ≤ 601024 ∧ n + 6 ≤ 7293034) (hi : i + 4 < LL) (hB : B < 2 ^ 28 - 10000) (hI : INV B I) (next : LN G p l e s m below meth c b (k + 1) (n + 6) B i) : LW G p l e s m below meth c b k n 1593 (lv5 G b i) [] I L r :=
  LW.four2 (ix := 212) (iy := 215) (off := 3) C hl0 hkn hi (jt_row (xs (i + 1)) hB) hI rfl (rt_at 1258 (by decide +kernel) (by decide +kernel)) (rt_at 1259 (by decide +kernel) (by decide +kernel)) (rt_at 1260 (by decide +kernel) (by decide +kernel)) (by decide +kernel) (by decide) (rt_at 1870 (by decide +kernel) (by decide +kernel)) okX12_row (fun _ _ => rfl) (fun _ _ => rfl) (rt_dec_of (by decide +kernel)) (rt_dec_of (by decide +kernel)) (by decide) next
end
