/-! THE LAW'S OWN FOUR: what they make of an answer and of a throw -/
def yS_place : MethodName := ⟨R_law, "place", "(LRoadsWithTides;II[J)I"⟩
def yS_road : MethodName := ⟨R_law, "road", "(LRoadsWithTides;II[J)I"⟩
def yS_cart : MethodName := ⟨R_law, "cart", "(LRoadsWithTides;II[J)I"⟩
def yS_row : MethodName := ⟨R_law, "row", "(LRoadsWithTides;I[J)I"⟩
def kS_place : rt_K := (yS_place, method_3_code, 5, some .int)
def kS_road : rt_K := (yS_road, method_4_code, 5, some .int)
def kS_cart : rt_K := (yS_cart, method_5_code, 5, some .int)
def kS_row : rt_K := (yS_row, method_6_code, 4, some .int)
def sHH (n : Nat) : List (Nat × Nat × Nat × Nat) := [(0, n, n + 3, 13)]
def srm (d : Nat) : Room := { frames := d + 9, cells := 1, slots := 6, locals := 80 * (d + 8) + 100 }
def sws (K : rt_K) (n : Nat) : List Cond := Cond.codeWith K.1 K.2.1 K.2.2.1 K.2.2.2 (sHH n) :: rt_tbl
def sCall (G : rt_G) (d : Nat) (K : rt_K) (n : Nat) (av : List Value) (I : rt_I) (L : rt_L) (r : Nat) (R : rt_Q) : Prop :=
  ∀ l : Launch, l.stackTraces = false → Met l K.1 (sws K n) (srm d) (xPc G av I L r) (rt_Qc G K R) 1 6 (rt_A G)
theorem xs_blind {G : rt_G} {av : List Value} {I : rt_I} {L : rt_L} {r : Nat} : FrameBlind (xPc G av I L r) := by
  intro a U g mk q
  obtain ⟨q0, ⟨q1, q2, q3⟩, q4⟩ := q
  exact ⟨q0, ⟨q1, rt_K_moved (u := U) (U := U.calling g mk a) (Vm.Alike.refl U.vm) q2, q3⟩, xOK.moved (u := U) (U := U.calling g mk a) (Vm.Alike.refl U.vm) q4⟩
section
variable {G : rt_G} {d : Nat} {I : rt_I} {L : rt_L} {r : Nat}
theorem xs_after {pc : Nat} {t : List Value} {K' : rt_K} {Q' : rt_Q} {N : rt_I → rt_L → Nat → Prop} {l : Launch} {p : Program} {e : Env} {s : State} {m : MethodId} {args a' : Array Value} {below : List Frame} {meth : Method} {c : Code} {H : Heap} {locs : List Loc} {ls : Array Slot} {R : Room} {QQ : State → Prop} {st0 : List Value}
    (hr : vx_Run p l e R s m args below meth c H locs 0 0 1 6 (F0 m pc ls st0) (t.map (rt_v G.2.2.2)) (rt_Qc G K' Q' a') (xX G N) (rt_A G)) (hS : va_S (rt_A G) s.heap H locs)
    (hk : ∀ v I' L' r' H1 locs1, Q' v I' L' r' → rt_P G I' L' r' H1 → va_S (rt_A G) s.heap H1 locs1 → W p l e R s m args below meth c H1 locs1 1 6 QQ (F0 m (pc + 3) ls ((rt_pu K' v t).map (rt_v G.2.2.2))))
    (hx : ∀ (q : Nat) (ce : Cell) I' L' r' H1 locs1, N I' L' r' → rt_P G I' L' r' H1 → va_S (rt_A G) s.heap H1 locs1 → H1[q]? = some ce → ce.vm = .none → s.vm.findClass xNSE = some ce.cls → vx_W p l e R s m args below meth c H1 locs1 1 6 QQ (F0 m pc ls (t.map (rt_v G.2.2.2))) q) : W p l e R s m args below meth c H locs 0 0 QQ (F0 m pc ls st0) := by
  intro T hT X
  have keep : ∀ (st₀ t1 T' : State) (L9 : List Loc), st₀.heap = H → T'.heap = t1.heap → va_F (rt_A G) st₀ t1 → (∀ q ∈ L9, rt_A G q.base) → va_S (rt_A G) s.heap T'.heap (locs ++ L9) := by
    intro st₀ t1 T' L9 h0 e1 hF hL
    obtain ⟨hz, hkp⟩ := hF
    rw [h0] at hz hkp
    exact ⟨Nat.le_trans hS.1 (by rw [e1]; exact hz), fun q h1 h2 => by rw [e1, hkp q (Nat.lt_of_lt_of_le h1 hS.1) h2]; exact hS.2.1 q h1 h2, fun q hq => by
      rcases List.mem_append.mp hq with h | h
      · exact hS.2.2 q h
      · exact hL q h⟩
  rcases hr T hT X with ⟨v, st₀, t1, T', L9, h0, X', hL, e1, e2, ⟨⟨v1, I', L', r', hv, hq, hP'⟩, hF⟩, st⟩ | ⟨q, st₀, t1, T', L9, E, ce, h0, X', hL, e1, e2, ⟨rfl, ⟨I', L', r', hN, hP'⟩, hF⟩, hce, hcv, hcl, st⟩
  · have hv1 : v = rt_rv K' v1 := by cases hv; rfl
    have hw : v.toList ++ t.map (rt_v G.2.2.2) = (rt_pu K' v1 t).map (rt_v G.2.2.2) := by
      rw [hv1]
      unfold rt_rv rt_pu
      cases K'.2.2.2 <;> rfl
    obtain ⟨t2, a1, b1⟩ := hk v1 I' L' r' T'.heap (locs ++ L9) hq (by rw [e1]; exact hP') (keep _ _ _ _ h0 e1 hF hL) T' rfl X'
    refine ⟨t2, st t2 ?_, b1⟩
    rw [hw]
    exact a1
  · obtain ⟨t2, a1, b1⟩ := hx q ce I' L' r' T'.heap (locs ++ L9) hN (by rw [e1]; exact hP') (keep _ _ _ _ h0 e1 hF hL) (by rw [e1]; exact hce) hcv hcl T' rfl X'
    exact ⟨t2, st.trans a1, b1⟩
theorem s_three {K K' : rt_K} {ix : Nat} {x y : Int32} {R : rt_Q} (hy : K.1.cls = R_law) (h5 : K.2.2.1 = 5) (hret : K.2.2.2 = some .int)
    (hd : rt_dec K.2.1 0 [(.aload_n 3, 1), (.iconst 0, 1), (.aload_n 0, 1), (.iload_n 1, 1), (.iload_n 2, 1), (.invokevirtual ix, 3), (.i2l, 1), (.lastore, 1), (.goto 7, 3), (.astore 4, 2), (.iconst 1, 1), (.ireturn, 1), (.iconst 0, 1), (.ireturn, 1)])
    (hw : Cond.methodLink R_law ix K'.1 ∈ rt_tbl) (hok : rt_okK K' 2 (some 11)) (px : ∀ v t, rt_pu K' v t = .int v :: t)
    (hc : xCall G d K' [.ref 0, .int x, .int y] I L r (fun v I1 L1 r1 => R 0 I1 (rt_uL L1 135 0 v.toInt64) r1) (fun I1 L1 r1 => R 1 I1 L1 r1)) : sCall G d K 10 [.ref 0, .int x, .int y, .ref 135] I L r R := by
  intro l hl0
  obtain ⟨d0, d1, d2, d3, d4, d5, d8, d9, d10, d13, d15, d16, d17, d18, -⟩ := hd
  refine va_MetW (cc := K.2.1) (maxL := K.2.2.1) (ret := K.2.2.2) (ws' := rt_tbl) (hh := sHH 10) (by rw [hy]; decide) rfl ?_
  intro p e s m args below meth c s₁ B hml hv
  obtain ⟨rfl, ⟨hP, hK, hJ⟩, hO⟩ := hv
  have hts0 := atoms_spec (ws := sws K 10) B.pre
  have hts : ∀ w ∈ rt_tbl, w.before _ s = true := fun w hw => hts0 w (List.mem_cons_of_mem _ hw)
  have hown : s.vm.findClass R_law = some m.cls := by rw [← hy]; exact findClass_of_methodNamed B.named
  have htab := vx_table (x := K.1) B (hts0 _ List.mem_cons_self)
  have hx := B.exec
  have hb := B.bytes
  have hr := B.returns.trans hret
  have hlk := B.notSynchronized
  have hl := lv_entry ([Value.ref 0, .int x, .int y, .ref 135].map (rt_v G.2.2.2)) (n := 5) (Nat.le_of_ble_eq_true rfl)
  rw [h5] at hml ⊢
  rw [lg_entry_eq]
  generalize (lg_sl ([Value.ref 0, .int x, .int y, .ref 135].map (rt_v G.2.2.2)) ++ List.replicate (5 - (lg_sl ([Value.ref 0, .int x, .int y, .ref 135].map (rt_v G.2.2.2))).length) Slot.unset).toArray = ls at hl ⊢
  have hl : lv_has ls 5 [(0, .ref (G.2.2.2 0)), (1, .int x), (2, .int y), (3, .ref (G.2.2.2 135))] := hl
  have hS : va_S (rt_A G) s.heap s.heap [] := va_S.rf
  refine lv_aload_n hx hb d0 rfl (lv_at hl 3 rfl) ?_
  refine lv_iconst (v := 0) hx hb d1 (by decide) ?_
  refine lv_aload_n hx hb d2 rfl (lv_at hl 0 rfl) ?_
  refine lv_iload_n hx hb d3 rfl (lv_at hl 1 rfl) ?_
  refine lv_iload_n hx hb d4 rfl (lv_at hl 2 rfl) ?_
  have he := rt_W_at (G := G) (I := I) (L := L) (r := r) (show 0 < rt_NC by decide)
  rw [rt_en_o (ci := 11) rfl] at he
  obtain ⟨w1, w2, w3, w4, w5, w6, q', w7, w8⟩ := id hok
  have cb : CallB (srm d) s _ R_law ix K'.1 K'.2.1 K'.2.2.1 K'.2.2.2 (rt_ws K') (xrm d) 1 6 2 :=
    callB_of 2 hts (rt_goodIn w1) rfl rfl rfl (hts _ w2) (hts _ hw) w3 ⟨by show d + 8 + 1 ≤ d + 9; omega, by show 8 + (K'.2.2.1 + 11) + 80 * (d + 8) ≤ 80 * (d + 8) + 100; omega⟩
  have hrun := vx_runV (l := l) (R := srm d) (below := below) (meth := meth) (H := s.heap) (locs := []) (cells := 0) (slots := 0) (e := e) (C := K'.1.cls) (b := G.2.2.2 0) (As := [.int x, .int y]) (rest := ([.int 0, .ref 135] : List Value).map (rt_v G.2.2.2)) (g := F0 m 5 ls [.int y, .int x, .ref (G.2.2.2 0), .int 0, .ref (G.2.2.2 135)]) ⟨hx, hb, hml, hown, hts⟩ (hc l hl0) ⟨cb, hts _ w5, hts _ w6⟩
    ⟨xs_blind, by rw [← w8]; exact va_recv hK hP w7 he, fun U hU hW => ⟨rfl, ⟨by rw [hU]; exact hP, rt_K_moved hW.alike hK, hJ⟩, by rw [hU]; exact xOK.moved hW.alike hO⟩⟩ rfl rfl hl.1 rfl (lv_room (Nat.le_of_ble_eq_true rfl)) d5 ⟨Nat.le_refl 1, Nat.le_refl 6⟩
  refine xs_after hrun hS (fun v I' L' r' H1 locs1 hq hP1 hS1 => ?_) (fun q ce I' L' r' H1 locs1 hq hP1 hS1 c1 c2 c3 => ?_)
  · rw [px]
    refine lv_i2l hx hb d8 rfl ?_
    have he2 := rt_W_at (G := G) (I := I') (L := L') (r := r') (show 135 < rt_NC by decide)
    rw [rt_en_l (c := 135) rfl] at he2
    refine va_last hx hb hK hP1 (rt_D hJ) hS1 135 3 he2 rfl (i := nI 0) (vp_nI rfl (show 0 < 1 by decide) (by decide)) d9 (fun H2 locs2 hP2 _ hS2 => ?_)
    rw [rt_W_set (I' := I') (L' := (rt_uL L' 135 0 v.toInt64)) (r' := r') (show 135 < rt_NC by decide)] at hP2
    rotate_left
    · rw [rt_en_l (c := 135) rfl, rt_uL_eq]
      rfl
    · intro z hz hne
      exact rt_en_neL (rt_uL_ne hne)
    refine lv_goto (tgt := 17) hx hb d10 (by decide) ?_
    refine lv_iconst (v := 0) hx hb d17 (by decide) ?_
    exact W.zret (v := 0) hx hb hr rfl (fun t ht hW => ⟨⟨0, I', _, r', by unfold rt_rv; rw [hret], hq, by rw [ht]; exact hP2⟩, hS2.F ht⟩) hS2.2.2 d18
  · refine vx_catch (own := R_law) (name := xNSE) (E := xNSE) hown [] ⟨0, 10, 13, 13⟩ [] htab (fun z hz => nomatch hz) (by decide) (by decide) (hts _ (rt_at 1173 (by decide +kernel) (by decide +kernel))) (va_Nw.use rfl hO.2.1) c1 c2 c3 ?_
    refine lv_astore (lv' := [(4, .ref q), (0, .ref (G.2.2.2 0)), (1, .int x), (2, .int y), (3, .ref (G.2.2.2 135))]) hx hb d13 hl (by decide) rfl (fun ls2 hl2 => ?_)
    refine lv_iconst (v := 1) hx hb d15 (by decide) ?_
    exact W.zret (v := 1) hx hb hr rfl (fun t ht hW => ⟨⟨1, I', _, r', by unfold rt_rv; rw [hret], hq, by rw [ht]; exact hP1⟩, hS1.F ht⟩) hS1.2.2 d16
theorem s_two {K K' : rt_K} {ix : Nat} {x : Int32} {R : rt_Q} (hy : K.1.cls = R_law) (h5 : K.2.2.1 = 4) (hret : K.2.2.2 = some .int)
    (hd : rt_dec K.2.1 0 [(.aload_n 2, 1), (.iconst 0, 1), (.aload_n 0, 1), (.iload_n 1, 1), (.invokevirtual ix, 3), (.i2l, 1), (.lastore, 1), (.goto 6, 3), (.astore_n 3, 1), (.iconst 1, 1), (.ireturn, 1), (.iconst 0, 1), (.ireturn, 1)])
    (hw : Cond.methodLink R_law ix K'.1 ∈ rt_tbl) (hok : rt_okK K' 1 (some 11)) (px : ∀ v t, rt_pu K' v t = .int v :: t)
    (hc : xCall G d K' [.ref 0, .int x] I L r (fun v I1 L1 r1 => R 0 I1 (rt_uL L1 135 0 v.toInt64) r1) (fun I1 L1 r1 => R 1 I1 L1 r1)) : sCall G d K 9 [.ref 0, .int x, .ref 135] I L r R := by
  intro l hl0
  obtain ⟨d0, d1, d2, d3, d5, d8, d9, d10, d13, d15, d16, d17, d18, -⟩ := hd
  refine va_MetW (cc := K.2.1) (maxL := K.2.2.1) (ret := K.2.2.2) (ws' := rt_tbl) (hh := sHH 9) (by rw [hy]; decide) rfl ?_
  intro p e s m args below meth c s₁ B hml hv
  obtain ⟨rfl, ⟨hP, hK, hJ⟩, hO⟩ := hv
  have hts0 := atoms_spec (ws := sws K 9) B.pre
  have hts : ∀ w ∈ rt_tbl, w.before _ s = true := fun w hw => hts0 w (List.mem_cons_of_mem _ hw)
  have hown : s.vm.findClass R_law = some m.cls := by rw [← hy]; exact findClass_of_methodNamed B.named
  have htab := vx_table (x := K.1) B (hts0 _ List.mem_cons_self)
  have hx := B.exec
  have hb := B.bytes
  have hr := B.returns.trans hret
  have hlk := B.notSynchronized
  have hl := lv_entry ([Value.ref 0, .int x, .ref 135].map (rt_v G.2.2.2)) (n := 4) (Nat.le_of_ble_eq_true rfl)
  rw [h5] at hml ⊢
  rw [lg_entry_eq]
  generalize (lg_sl ([Value.ref 0, .int x, .ref 135].map (rt_v G.2.2.2)) ++ List.replicate (4 - (lg_sl ([Value.ref 0, .int x, .ref 135].map (rt_v G.2.2.2))).length) Slot.unset).toArray = ls at hl ⊢
  have hl : lv_has ls 4 [(0, .ref (G.2.2.2 0)), (1, .int x), (2, .ref (G.2.2.2 135))] := hl
  have hS : va_S (rt_A G) s.heap s.heap [] := va_S.rf
  refine lv_aload_n hx hb d0 rfl (lv_at hl 2 rfl) ?_
  refine lv_iconst (v := 0) hx hb d1 (by decide) ?_
  refine lv_aload_n hx hb d2 rfl (lv_at hl 0 rfl) ?_
  refine lv_iload_n hx hb d3 rfl (lv_at hl 1 rfl) ?_
  have he := rt_W_at (G := G) (I := I) (L := L) (r := r) (show 0 < rt_NC by decide)
  rw [rt_en_o (ci := 11) rfl] at he
  obtain ⟨w1, w2, w3, w4, w5, w6, q', w7, w8⟩ := id hok
  have cb : CallB (srm d) s _ R_law ix K'.1 K'.2.1 K'.2.2.1 K'.2.2.2 (rt_ws K') (xrm d) 1 6 1 :=
    callB_of 1 hts (rt_goodIn w1) rfl rfl rfl (hts _ w2) (hts _ hw) w3 ⟨by show d + 8 + 1 ≤ d + 9; omega, by show 8 + (K'.2.2.1 + 11) + 80 * (d + 8) ≤ 80 * (d + 8) + 100; omega⟩
  have hrun := vx_runV (l := l) (R := srm d) (below := below) (meth := meth) (H := s.heap) (locs := []) (cells := 0) (slots := 0) (e := e) (C := K'.1.cls) (b := G.2.2.2 0) (As := [.int x]) (rest := ([.int 0, .ref 135] : List Value).map (rt_v G.2.2.2)) (g := F0 m 4 ls [.int x, .ref (G.2.2.2 0), .int 0, .ref (G.2.2.2 135)]) ⟨hx, hb, hml, hown, hts⟩ (hc l hl0) ⟨cb, hts _ w5, hts _ w6⟩
    ⟨xs_blind, by rw [← w8]; exact va_recv hK hP w7 he, fun U hU hW => ⟨rfl, ⟨by rw [hU]; exact hP, rt_K_moved hW.alike hK, hJ⟩, by rw [hU]; exact xOK.moved hW.alike hO⟩⟩ rfl rfl hl.1 rfl (lv_room (Nat.le_of_ble_eq_true rfl)) d5 ⟨Nat.le_refl 1, Nat.le_refl 6⟩
  refine xs_after hrun hS (fun v I' L' r' H1 locs1 hq hP1 hS1 => ?_) (fun q ce I' L' r' H1 locs1 hq hP1 hS1 c1 c2 c3 => ?_)
  · rw [px]
    refine lv_i2l hx hb d8 rfl ?_
    have he2 := rt_W_at (G := G) (I := I') (L := L') (r := r') (show 135 < rt_NC by decide)
    rw [rt_en_l (c := 135) rfl] at he2
    refine va_last hx hb hK hP1 (rt_D hJ) hS1 135 3 he2 rfl (i := nI 0) (vp_nI rfl (show 0 < 1 by decide) (by decide)) d9 (fun H2 locs2 hP2 _ hS2 => ?_)
    rw [rt_W_set (I' := I') (L' := (rt_uL L' 135 0 v.toInt64)) (r' := r') (show 135 < rt_NC by decide)] at hP2
    rotate_left
    · rw [rt_en_l (c := 135) rfl, rt_uL_eq]
      rfl
    · intro z hz hne
      exact rt_en_neL (rt_uL_ne hne)
    refine lv_goto (tgt := 15) hx hb d10 (by decide) ?_
    refine lv_iconst (v := 0) hx hb d17 (by decide) ?_
    exact W.zret (v := 0) hx hb hr rfl (fun t ht hW => ⟨⟨0, I', _, r', by unfold rt_rv; rw [hret], hq, by rw [ht]; exact hP2⟩, hS2.F ht⟩) hS2.2.2 d18
  · refine vx_catch (own := R_law) (name := xNSE) (E := xNSE) hown [] ⟨0, 9, 12, 13⟩ [] htab (fun z hz => nomatch hz) (by decide) (by decide) (hts _ (rt_at 1173 (by decide +kernel) (by decide +kernel))) (va_Nw.use rfl hO.2.1) c1 c2 c3 ?_
    refine lv_astore_n (lv' := [(3, .ref q), (0, .ref (G.2.2.2 0)), (1, .int x), (2, .ref (G.2.2.2 135))]) hx hb d13 rfl hl (by decide) rfl (fun ls2 hl2 => ?_)
    refine lv_iconst (v := 1) hx hb d15 (by decide) ?_
    exact W.zret (v := 1) hx hb hr rfl (fun t ht hW => ⟨⟨1, I', _, r', by unfold rt_rv; rw [hret], hq, by rw [ht]; exact hP1⟩, hS1.F ht⟩) hS1.2.2 d16
end
