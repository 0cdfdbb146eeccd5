theorem rt_o_iaload {G : rt_G} {d : Nat} {K : rt_K} {Q : rt_Q} {pc : Nat} {lv : rt_V} {I : rt_I} {L : rt_L} {r : Nat} {t : List Value} {q : Nat} {j : Int32} (ho : rt_isA q 0 = true) (hj : vp_in j (rt_lay q).2) (hd : decode K.2.1 pc = .ok (.iaload, 1)) (h : rt_AW G d K Q (pc + 1) lv (.int (I q j.toNatClampNeg) :: t) I L r) : rt_AW G d K Q pc lv (.int j :: .ref q :: t) I L r := by
  intro l p e s m args below meth c H locs ls C hP hS hl
  obtain ⟨a1, a2⟩ := rt_isA_inv ho
  have he := rt_W_at (G := G) (I := I) (L := L) (r := r) a1
  rw [rt_en_i a2] at he
  exact va_iald C.1 C.2.1 C.2.2.2.2.2.2.2.1 hP q 0 he rfl hj hd (h l p e s m args below meth c H locs ls C hP hS hl)
theorem rt_o_baload1 {G : rt_G} {d : Nat} {K : rt_K} {Q : rt_Q} {pc : Nat} {lv : rt_V} {I : rt_I} {L : rt_L} {r : Nat} {t : List Value} {q : Nat} {j : Int32} (ho : rt_isA q 1 = true) (hj : vp_in j (rt_lay q).2) (hd : decode K.2.1 pc = .ok (.baload, 1)) (h : rt_AW G d K Q (pc + 1) lv (.int (I q j.toNatClampNeg) :: t) I L r) : rt_AW G d K Q pc lv (.int j :: .ref q :: t) I L r := by
  intro l p e s m args below meth c H locs ls C hP hS hl
  obtain ⟨a1, a2⟩ := rt_isA_inv ho
  have he := rt_W_at (G := G) (I := I) (L := L) (r := r) a1
  rw [rt_en_b a2] at he
  exact va_bald C.1 C.2.1 C.2.2.2.2.2.2.2.1 hP q 1 he rfl hj hd (h l p e s m args below meth c H locs ls C hP hS hl)
theorem rt_o_baload2 {G : rt_G} {d : Nat} {K : rt_K} {Q : rt_Q} {pc : Nat} {lv : rt_V} {I : rt_I} {L : rt_L} {r : Nat} {t : List Value} {q : Nat} {j : Int32} (ho : rt_isA q 2 = true) (hj : vp_in j (rt_lay q).2) (hd : decode K.2.1 pc = .ok (.baload, 1)) (h : rt_AW G d K Q (pc + 1) lv (.int (I q j.toNatClampNeg) :: t) I L r) : rt_AW G d K Q pc lv (.int j :: .ref q :: t) I L r := by
  intro l p e s m args below meth c H locs ls C hP hS hl
  obtain ⟨a1, a2⟩ := rt_isA_inv ho
  have he := rt_W_at (G := G) (I := I) (L := L) (r := r) a1
  rw [rt_en_z a2] at he
  exact va_zald C.1 C.2.1 C.2.2.2.2.2.2.2.1 hP q 2 he rfl hj hd (h l p e s m args below meth c H locs ls C hP hS hl)
theorem rt_o_laload {G : rt_G} {d : Nat} {K : rt_K} {Q : rt_Q} {pc : Nat} {lv : rt_V} {I : rt_I} {L : rt_L} {r : Nat} {t : List Value} {q : Nat} {j : Int32} (ho : rt_isA q 3 = true) (hj : vp_in j (rt_lay q).2) (hd : decode K.2.1 pc = .ok (.laload, 1)) (h : rt_AW G d K Q (pc + 1) lv (.long (L q j.toNatClampNeg) :: t) I L r) : rt_AW G d K Q pc lv (.int j :: .ref q :: t) I L r := by
  intro l p e s m args below meth c H locs ls C hP hS hl
  obtain ⟨a1, a2⟩ := rt_isA_inv ho
  have he := rt_W_at (G := G) (I := I) (L := L) (r := r) a1
  rw [rt_en_l a2] at he
  exact va_lald C.1 C.2.1 C.2.2.2.2.2.2.2.1 hP q 3 he rfl hj hd (h l p e s m args below meth c H locs ls C hP hS hl)
theorem rt_o_aaload {G : rt_G} {d : Nat} {K : rt_K} {Q : rt_Q} {pc : Nat} {lv : rt_V} {I : rt_I} {L : rt_L} {r : Nat} {t : List Value} {q b : Nat} {j : Int32} (ho : rt_isA q 4 = true) (hj : vp_in j (rt_lay q).2) (hb : rt_pt r q j.toNatClampNeg = some b) (hd : decode K.2.1 pc = .ok (.aaload, 1)) (h : rt_AW G d K Q (pc + 1) lv (.ref b :: t) I L r) : rt_AW G d K Q pc lv (.int j :: .ref q :: t) I L r := by
  intro l p e s m args below meth c H locs ls C hP hS hl
  obtain ⟨a1, a2⟩ := rt_isA_inv ho
  have he := rt_W_at (G := G) (I := I) (L := L) (r := r) a1
  rw [rt_en_q a2] at he
  refine va_aldq C.1 C.2.1 C.2.2.2.2.2.2.2.1 hP q 4 he rfl hj hd ?_
  show W _ _ _ _ _ _ _ _ _ _ _ _ _ _ _ (F0 m (pc + 1) ls (va_rf ((rt_pt r q j.toNatClampNeg).map G.2.2.2) :: _))
  rw [hb]
  exact h l p e s m args below meth c H locs ls C hP hS hl
theorem rt_o_iastore {G : rt_G} {d : Nat} {K : rt_K} {Q : rt_Q} {pc : Nat} {lv : rt_V} {I : rt_I} {L : rt_L} {r : Nat} {t : List Value} {q : Nat} {j : Int32} {v : Int32} (ho : rt_isA q 0 = true) (hj : vp_in j (rt_lay q).2) (hd : decode K.2.1 pc = .ok (.iastore, 1)) (h : rt_AW G d K Q (pc + 1) lv t (rt_u I q j.toNatClampNeg v) L r) : rt_AW G d K Q pc lv (.int v :: .int j :: .ref q :: t) I L r := by
  intro l p e s m args below meth c H locs ls C hP hS hl
  obtain ⟨a1, a2⟩ := rt_isA_inv ho
  have he := rt_W_at (G := G) (I := I) (L := L) (r := r) a1
  rw [rt_en_i a2] at he
  refine va_iast C.1 C.2.1 C.2.2.2.2.2.2.2.1 hP (rt_D C.2.2.2.2.2.2.2.2) hS q 0 he rfl hj hd (fun H1 locs1 hP1 _ hS1 => ?_)
  rw [rt_W_set (I' := (rt_u I q j.toNatClampNeg v)) (L' := L) (r' := r) a1] at hP1
  · exact h l p e s m args below meth c H1 locs1 ls C hP1 hS1 hl
  · rw [rt_en_i a2, rt_u_eq]
  · intro y hy hne
    exact rt_en_ne (rt_u_ne hne)
theorem rt_o_bastore1 {G : rt_G} {d : Nat} {K : rt_K} {Q : rt_Q} {pc : Nat} {lv : rt_V} {I : rt_I} {L : rt_L} {r : Nat} {t : List Value} {q : Nat} {j : Int32} {v : Int32} (ho : rt_isA q 1 = true) (hj : vp_in j (rt_lay q).2) (hd : decode K.2.1 pc = .ok (.bastore, 1)) (h : rt_AW G d K Q (pc + 1) lv t (rt_u I q j.toNatClampNeg (vp_nar .byte v)) L r) : rt_AW G d K Q pc lv (.int v :: .int j :: .ref q :: t) I L r := by
  intro l p e s m args below meth c H locs ls C hP hS hl
  obtain ⟨a1, a2⟩ := rt_isA_inv ho
  have he := rt_W_at (G := G) (I := I) (L := L) (r := r) a1
  rw [rt_en_b a2] at he
  refine va_bast C.1 C.2.1 C.2.2.2.2.2.2.2.1 hP (rt_D C.2.2.2.2.2.2.2.2) hS q 1 he rfl hj hd (fun H1 locs1 hP1 _ hS1 => ?_)
  rw [rt_W_set (I' := (rt_u I q j.toNatClampNeg (vp_nar .byte v))) (L' := L) (r' := r) a1] at hP1
  · exact h l p e s m args below meth c H1 locs1 ls C hP1 hS1 hl
  · rw [rt_en_b a2, rt_u_eq]
  · intro y hy hne
    exact rt_en_ne (rt_u_ne hne)
theorem rt_o_bastore2 {G : rt_G} {d : Nat} {K : rt_K} {Q : rt_Q} {pc : Nat} {lv : rt_V} {I : rt_I} {L : rt_L} {r : Nat} {t : List Value} {q : Nat} {j : Int32} {v : Int32} (ho : rt_isA q 2 = true) (hj : vp_in j (rt_lay q).2) (hd : decode K.2.1 pc = .ok (.bastore, 1)) (h : rt_AW G d K Q (pc + 1) lv t (rt_u I q j.toNatClampNeg (vp_nar .boolean v)) L r) : rt_AW G d K Q pc lv (.int v :: .int j :: .ref q :: t) I L r := by
  intro l p e s m args below meth c H locs ls C hP hS hl
  obtain ⟨a1, a2⟩ := rt_isA_inv ho
  have he := rt_W_at (G := G) (I := I) (L := L) (r := r) a1
  rw [rt_en_z a2] at he
  refine va_zast C.1 C.2.1 C.2.2.2.2.2.2.2.1 hP (rt_D C.2.2.2.2.2.2.2.2) hS q 2 he rfl hj hd (fun H1 locs1 hP1 _ hS1 => ?_)
  rw [rt_W_set (I' := (rt_u I q j.toNatClampNeg (vp_nar .boolean v))) (L' := L) (r' := r) a1] at hP1
  · exact h l p e s m args below meth c H1 locs1 ls C hP1 hS1 hl
  · rw [rt_en_z a2, rt_u_eq]
  · intro y hy hne
    exact rt_en_ne (rt_u_ne hne)
theorem rt_o_lastore {G : rt_G} {d : Nat} {K : rt_K} {Q : rt_Q} {pc : Nat} {lv : rt_V} {I : rt_I} {L : rt_L} {r : Nat} {t : List Value} {q : Nat} {j : Int32} {v : Int64} (ho : rt_isA q 3 = true) (hj : vp_in j (rt_lay q).2) (hd : decode K.2.1 pc = .ok (.lastore, 1)) (h : rt_AW G d K Q (pc + 1) lv t I (rt_uL L q j.toNatClampNeg v) r) : rt_AW G d K Q pc lv (.long v :: .int j :: .ref q :: t) I L r := by
  intro l p e s m args below meth c H locs ls C hP hS hl
  obtain ⟨a1, a2⟩ := rt_isA_inv ho
  have he := rt_W_at (G := G) (I := I) (L := L) (r := r) a1
  rw [rt_en_l a2] at he
  refine va_last C.1 C.2.1 C.2.2.2.2.2.2.2.1 hP (rt_D C.2.2.2.2.2.2.2.2) hS q 3 he rfl hj hd (fun H1 locs1 hP1 _ hS1 => ?_)
  rw [rt_W_set (I' := I) (L' := (rt_uL L q j.toNatClampNeg v)) (r' := r) a1] at hP1
  · exact h l p e s m args below meth c H1 locs1 ls C hP1 hS1 hl
  · rw [rt_en_l a2, rt_uL_eq]
  · intro y hy hne
    exact rt_en_neL (rt_uL_ne hne)
theorem rt_o_alen {G : rt_G} {d : Nat} {K : rt_K} {Q : rt_Q} {pc : Nat} {lv : rt_V} {I : rt_I} {L : rt_L} {r : Nat} {t : List Value} {q : Nat} (h1 : q < rt_NC) (h2 : (rt_lay q).1 < 5) (hd : decode K.2.1 pc = .ok (.arraylength, 1)) (h : rt_AW G d K Q (pc + 1) lv (.int (Int32.ofNat (rt_lay q).2) :: t) I L r) : rt_AW G d K Q pc lv (.ref q :: t) I L r := by
  intro l p e s m args below meth c H locs ls C hP hS hl
  have he := rt_W_at (G := G) (I := I) (L := L) (r := r) h1
  have hk : (rt_lay q).1 = 0 ∨ (rt_lay q).1 = 1 ∨ (rt_lay q).1 = 2 ∨ (rt_lay q).1 = 3 ∨ (rt_lay q).1 = 4 := by omega
  rcases hk with a2 | a2 | a2 | a2 | a2
  · rw [rt_en_i a2] at he
    exact va_alen C.1 C.2.1 C.2.2.2.2.2.2.2.1 hP q 0 he (show (rt_ty G)[0]? = some (G.2.2.1 0, .int) from rfl) rfl hd (h l p e s m args below meth c H locs ls C hP hS hl)
  · rw [rt_en_b a2] at he
    exact va_alen C.1 C.2.1 C.2.2.2.2.2.2.2.1 hP q 1 he (show (rt_ty G)[1]? = some (G.2.2.1 1, .byte) from rfl) rfl hd (h l p e s m args below meth c H locs ls C hP hS hl)
  · rw [rt_en_z a2] at he
    exact va_alen C.1 C.2.1 C.2.2.2.2.2.2.2.1 hP q 2 he (show (rt_ty G)[2]? = some (G.2.2.1 2, .boolean) from rfl) rfl hd (h l p e s m args below meth c H locs ls C hP hS hl)
  · rw [rt_en_l a2] at he
    exact va_alen C.1 C.2.1 C.2.2.2.2.2.2.2.1 hP q 3 he (show (rt_ty G)[3]? = some (G.2.2.1 3, .long) from rfl) rfl hd (h l p e s m args below meth c H locs ls C hP hS hl)
  · rw [rt_en_q a2] at he
    exact va_alen C.1 C.2.1 C.2.2.2.2.2.2.2.1 hP q 4 he (show (rt_ty G)[4]? = some (G.2.2.1 4, .object RX4) from rfl) rfl hd (h l p e s m args below meth c H locs ls C hP hS hl)
theorem rt_o_copy {G : rt_G} {d : Nat} {K : rt_K} {Q : rt_Q} {pc : Nat} {lv : rt_V} {I : rt_I} {L : rt_L} {r : Nat} {t : List Value} {a b x : Nat} {sp dp cn : Int32} (hw : Cond.methodLink K.1.cls x arraycopyName ∈ rt_tbl) (hoa : rt_isA a 0 = true) (hob : rt_isA b 0 = true) (hsm : rt_sm t ≤ 8) (hc : ¬ sp < 0 ∧ ¬ dp < 0 ∧ ¬ cn < 0 ∧ sp.toNatClampNeg + cn.toNatClampNeg ≤ (rt_lay a).2 ∧ dp.toNatClampNeg + cn.toNatClampNeg ≤ (rt_lay b).2) (hd : decode K.2.1 pc = .ok (.invokestatic x, 3))
    (h : rt_AW G (d + 1) K Q (pc + 3) lv t (rt_uA I b (va_cpy (I a) (I b) sp.toNatClampNeg dp.toNatClampNeg cn.toNatClampNeg)) L r) : rt_AW G (d + 1) K Q pc lv (.int cn :: .int dp :: .ref b :: .int sp :: .ref a :: t) I L r := by
  intro l p e s m args below meth c H locs ls C hP hS hl
  obtain ⟨a1, a2⟩ := rt_isA_inv hoa
  obtain ⟨b1, b2⟩ := rt_isA_inv hob
  have hea := rt_W_at (G := G) (I := I) (L := L) (r := r) a1
  have heb := rt_W_at (G := G) (I := I) (L := L) (r := r) b1
  rw [rt_en_i a2] at hea
  rw [rt_en_i b2] at heb
  obtain ⟨w1, w2, w3⟩ := rt_acs
  have ht := C.2.2.2.2.2.1
  refine va_copyi (ty := .int) C.1 C.2.1 (C.2.2.2.1.trans hl.2.1.symm) C.2.2.2.2.1 (ht _ hw) (ht _ w1) (ht _ w2) (ht _ w3) C.2.2.2.2.2.2.2.1 hP (rt_D C.2.2.2.2.2.2.2.2) hS a b 0 0 hea heb rfl rfl rfl hc.1 hc.2.1 hc.2.2.1 hc.2.2.2.1 hc.2.2.2.2 (fun _ _ => rfl) (by show 1 ≤ d + 1; omega) ?_ hd (fun H1 locs1 hP1 _ hS1 => ?_)
  · rw [rt_sm_map]
    show rt_sm t + (nativeFrameWords "java/lang/System" "arraycopy" 5 + 11) ≤ 80 * (d + 1)
    have : nativeFrameWords "java/lang/System" "arraycopy" 5 = 7 := by decide
    omega
  · rw [rt_W_set (I' := rt_uA I b (va_cpy (I a) (I b) sp.toNatClampNeg dp.toNatClampNeg cn.toNatClampNeg)) (L' := L) (r' := r) b1] at hP1
    · exact h l p e s m args below meth c H1 locs1 ls C hP1 hS1 hl
    · rw [rt_en_i b2, rt_uA_eq]
    · intro y hy hne
      exact rt_en_ne (rt_uA_ne hne)
/-- behind a call -/
theorem rt_after {G : rt_G} {pc : Nat} {t : List Value} {K' : rt_K} {Q' : rt_Q} {l : Launch} {p : Program} {e : Env} {s : State} {m : MethodId} {args a' : Array Value} {below : List Frame} {meth : Method} {c : Code} {H : Heap} {locs : List Loc} {ls : Array Slot} {R : Room} {QQ : State → Prop} {st0 : List Value}
    (hr : va_Run p l e R s m args below meth c H locs 0 0 0 0 (F0 m pc ls st0) (t.map (rt_v G.2.2.2)) (rt_Qc G K' Q' a') (rt_A G)) (hS : va_S (rt_A G) s.heap H locs)
    (hk : ∀ v I' L' r' H1 locs1, Q' v I' L' r' → rt_P G I' L' r' H1 → va_S (rt_A G) s.heap H1 locs1 → W p l e R s m args below meth c H1 locs1 0 0 QQ (F0 m (pc + 3) ls ((rt_pu K' v t).map (rt_v G.2.2.2)))) : W p l e R s m args below meth c H locs 0 0 QQ (F0 m pc ls st0) := by
  intro T hT X
  obtain ⟨v, st₀, t1, T', L9, h0, X', hL, e1, e2, ⟨⟨v1, I', L', r', hv, hq, hP'⟩, hz, hkp⟩, st⟩ := hr T hT X
  rw [h0] at hz hkp
  have hv1 : v = rt_rv K' v1 := by cases hv; rfl
  have hw : v.toList ++ t.map (rt_v G.2.2.2) = (rt_pu K' v1 t).map (rt_v G.2.2.2) := by
    rw [hv1]
    unfold rt_rv rt_pu
    cases K'.2.2.2 <;> rfl
  obtain ⟨t2, a1, b1⟩ := hk v1 I' L' r' T'.heap (locs ++ L9) hq (by rw [e1]; exact hP') ⟨Nat.le_trans hS.1 (by rw [e1]; exact hz), fun q h1 h2 => by rw [e1, hkp q (Nat.lt_of_lt_of_le h1 hS.1) h2]; exact hS.2.1 q h1 h2, fun q hq => by
      rcases List.mem_append.mp hq with h | h
      · exact hS.2.2 q h
      · exact hL q h⟩ T' rfl X'
  refine ⟨t2, st t2 ?_, b1⟩
  rw [hw]
  exact a1
theorem rt_blind {G : rt_G} {av : List Value} {I : rt_I} {L : rt_L} {r : Nat} : FrameBlind (rt_Pc G av I L r) := by
  intro a U g mk q
  obtain ⟨q0, q1, q2, q3⟩ := q
  exact ⟨q0, q1, rt_K_moved (u := U) (U := U.calling g mk a) (Vm.Alike.refl U.vm) q2, q3⟩
theorem rt_cb {K K' : rt_K} {G : rt_G} {n x d : Nat} {ci : Option Nat} {p : Program} {s : State} {m : MethodId} {args : Array Value} {meth : Method} {c : Code} (C : rt_C G K p s m args meth c) (hw : Cond.methodLink K.1.cls x K'.1 ∈ rt_tbl) (hok : rt_okK K' n ci) :
    CallB (rt_rm (d + 1)) s args K.1.cls x K'.1 K'.2.1 K'.2.2.1 K'.2.2.2 (rt_ws K') (rt_rm d) 0 0 n := by
  obtain ⟨h1, h2, h3, h4, -⟩ := hok
  exact callB_of n C.2.2.2.2.2.1 (rt_goodIn h1) rfl rfl rfl (C.2.2.2.2.2.1 _ h2) (C.2.2.2.2.2.1 _ hw) h3 ⟨Nat.le_refl _, by show 8 + (K'.2.2.1 + 11) + 80 * d ≤ 80 * (d + 1); omega⟩
theorem rt_o_invv {G : rt_G} {d : Nat} {K : rt_K} {Q : rt_Q} {pc : Nat} {lv : rt_V} {I : rt_I} {L : rt_L} {r : Nat} {t : List Value} {K' : rt_K} {n x b ci : Nat} {as : List Value} {Q' : rt_Q} (hw : Cond.methodLink K.1.cls x K'.1 ∈ rt_tbl) (hok : rt_okK K' n (some ci)) (hn : as.length = n) (ho : rt_isO b ci 0 = true) (hsm : rt_sm t ≤ 8) (hd : decode K.2.1 pc = .ok (.invokevirtual x, 3))
    (hc : rt_Call G d K' (.ref b :: as) I L r Q') (h : ∀ v I' L' r', Q' v I' L' r' → rt_AW G (d + 1) K Q (pc + 3) lv (rt_pu K' v t) I' L' r') : rt_AW G (d + 1) K Q pc lv (as.reverse ++ .ref b :: t) I L r := by
  intro l p e s m args below meth c H locs ls C hP hS hl
  obtain ⟨a1, a2, a3⟩ := rt_isO_inv ho
  have he := rt_W_at (G := G) (I := I) (L := L) (r := r) a1
  rw [rt_en_o a2] at he
  obtain ⟨h1, h2, h3, h4, h5, h6, q, h7, h8⟩ := id hok
  have hK := C.2.2.2.2.2.2.2.1
  have hrun := va_runV (R := rt_rm (d + 1)) (below := below) (meth := meth) (H := H) (locs := locs) (cells := 0) (slots := 0) (e := e) (C := K'.1.cls) (b := G.2.2.2 b) (As := as.map (rt_v G.2.2.2)) (rest := t.map (rt_v G.2.2.2)) (g := F0 m pc ls ((as.reverse ++ .ref b :: t).map (rt_v G.2.2.2))) ⟨C.1, C.2.1, C.2.2.2.1, C.2.2.2.2.1, C.2.2.2.2.2.1⟩ (hc l) ⟨rt_cb C hw hok, C.2.2.2.2.2.1 _ h5, C.2.2.2.2.2.1 _ h6⟩
    ⟨rt_blind, by rw [← h8]; exact va_recv hK hP h7 he, fun U hU hW => ⟨rfl, by rw [hU]; exact hP, rt_K_moved hW.alike hK, C.2.2.2.2.2.2.2.2⟩⟩ rfl (by rw [List.length_map]; exact hn) hl.2.1 (by simp [rt_v]) (lv_room (by rw [rt_sm_map]; exact hsm)) hd ⟨Nat.le_refl _, Nat.le_refl _⟩
  exact rt_after hrun hS (fun v I' L' r' H1 locs1 hq hP1 hS1 => h v I' L' r' hq l p e s m args below meth c H1 locs1 ls C hP1 hS1 hl)
theorem rt_o_invs {G : rt_G} {d : Nat} {K : rt_K} {Q : rt_Q} {pc : Nat} {lv : rt_V} {I : rt_I} {L : rt_L} {r : Nat} {t : List Value} {K' : rt_K} {n x : Nat} {as : List Value} {Q' : rt_Q} (hw : Cond.methodLink K.1.cls x K'.1 ∈ rt_tbl) (hok : rt_okK K' n none) (hn : as.length = n) (hsm : rt_sm t ≤ 8) (hd : decode K.2.1 pc = .ok (.invokestatic x, 3))
    (hc : rt_Call G d K' as I L r Q') (h : ∀ v I' L' r', Q' v I' L' r' → rt_AW G (d + 1) K Q (pc + 3) lv (rt_pu K' v t) I' L' r') : rt_AW G (d + 1) K Q pc lv (as.reverse ++ t) I L r := by
  intro l p e s m args below meth c H locs ls C hP hS hl
  obtain ⟨h1, h2, h3, h4, h5⟩ := id hok
  have hK := C.2.2.2.2.2.2.2.1
  have hrun := va_runS (R := rt_rm (d + 1)) (below := below) (meth := meth) (H := H) (locs := locs) (cells := 0) (slots := 0) (e := e) (As := as.map (rt_v G.2.2.2)) (rest := t.map (rt_v G.2.2.2)) (g := F0 m pc ls ((as.reverse ++ t).map (rt_v G.2.2.2))) ⟨C.1, C.2.1, C.2.2.2.1, C.2.2.2.2.1, C.2.2.2.2.2.1⟩ (hc l) ⟨rt_cb C hw hok, C.2.2.2.2.2.1 _ h5⟩
    ⟨rt_blind, fun U hU hW => ⟨rfl, by rw [hU]; exact hP, rt_K_moved hW.alike hK, C.2.2.2.2.2.2.2.2⟩⟩ rfl (by rw [List.length_map]; exact hn) hl.2.1 (by simp) (lv_room (by rw [rt_sm_map]; exact hsm)) hd ⟨Nat.le_refl _, Nat.le_refl _⟩
  exact rt_after hrun hS (fun v I' L' r' H1 locs1 hq hP1 hS1 => h v I' L' r' hq l p e s m args below meth c H1 locs1 ls C hP1 hS1 hl)
theorem rt_o_iret {G : rt_G} {d : Nat} {K : rt_K} {Q : rt_Q} {pc : Nat} {lv : rt_V} {I : rt_I} {L : rt_L} {r : Nat} {v : Int32} {ty : FieldType} (hr : K.2.2.2 = some ty) (hn : narrow ty (.int v) = .int v) (hd : decode K.2.1 pc = .ok (.ireturn, 1)) (h : Q v I L r) : rt_AW G d K Q pc lv [.int v] I L r := by
  intro l p e s m args below meth c H locs ls C hP hS hl
  have hlk : meth.locks = false := C.2.2.2.2.2.2.1
  exact W.zret (v := v) C.1 C.2.1 (C.2.2.1.trans hr) hn (fun t ht hW => ⟨⟨v, I, L, r, by unfold rt_rv; rw [hr], h, by rw [ht]; exact hP⟩, hS.F ht⟩) hS.2.2 hd
theorem rt_o_vret {G : rt_G} {d : Nat} {K : rt_K} {Q : rt_Q} {pc : Nat} {lv : rt_V} {I : rt_I} {L : rt_L} {r : Nat} (hr : K.2.2.2 = none) (hd : decode K.2.1 pc = .ok (.return_, 1)) (h : Q 0 I L r) : rt_AW G d K Q pc lv [] I L r := by
  intro l p e s m args below meth c H locs ls C hP hS hl
  have hlk : meth.locks = false := C.2.2.2.2.2.2.1
  exact W.vret C.1 C.2.1 (C.2.2.1.trans hr) (fun t ht hW => ⟨⟨0, I, L, r, by unfold rt_rv; rw [hr], h, by rw [ht]; exact hP⟩, hS.F ht⟩) hS.2.2 hd
theorem rt_o_max {G : rt_G} {d : Nat} {K : rt_K} {Q : rt_Q} {pc : Nat} {lv : rt_V} {I : rt_I} {L : rt_L} {r : Nat} {t : List Value} {q : Nat} {x y : Int32} (hw : Cond.methodLink K.1.cls q Lib.Math.max.name ∈ rt_tbl) (hsm : rt_sm t ≤ 8) (hd : decode K.2.1 pc = .ok (.invokestatic q, 3)) (h : rt_AW G (d + 1) K Q (pc + 3) lv (.int (rt_max x y) :: t) I L r) : rt_AW G (d + 1) K Q pc lv (.int y :: .int x :: t) I L r := by
  intro l p e s m args below meth c H locs ls C hP hS hl
  have ht := C.2.2.2.2.2.1
  obtain ⟨w1, w2⟩ := rt_mth
  refine va_mmax C.1 C.2.1 (C.2.2.2.1.trans hl.2.1.symm) C.2.2.2.2.1 (ht _ hw) (ht _ w2.1.1) (ht _ w1) (ht _ w2.1.2) (by show 1 ≤ d + 1; omega) ?_ (Nat.le_refl _) (Nat.le_refl _) hd (h l p e s m args below meth c H locs ls C hP hS hl)
  rw [rt_sm_map]
  show rt_sm t + 13 ≤ 80 * (d + 1)
  omega
theorem rt_o_min {G : rt_G} {d : Nat} {K : rt_K} {Q : rt_Q} {pc : Nat} {lv : rt_V} {I : rt_I} {L : rt_L} {r : Nat} {t : List Value} {q : Nat} {x y : Int32} (hw : Cond.methodLink K.1.cls q Lib.Math.min.name ∈ rt_tbl) (hsm : rt_sm t ≤ 8) (hd : decode K.2.1 pc = .ok (.invokestatic q, 3)) (h : rt_AW G (d + 1) K Q (pc + 3) lv (.int (rt_min x y) :: t) I L r) : rt_AW G (d + 1) K Q pc lv (.int y :: .int x :: t) I L r := by
  intro l p e s m args below meth c H locs ls C hP hS hl
  have ht := C.2.2.2.2.2.1
  obtain ⟨w1, w2⟩ := rt_mth
  refine va_mmin C.1 C.2.1 (C.2.2.2.1.trans hl.2.1.symm) C.2.2.2.2.1 (ht _ hw) (ht _ w2.2.1.1) (ht _ w1) (ht _ w2.2.1.2) (by show 1 ≤ d + 1; omega) ?_ (Nat.le_refl _) (Nat.le_refl _) hd (h l p e s m args below meth c H locs ls C hP hS hl)
  rw [rt_sm_map]
  show rt_sm t + 13 ≤ 80 * (d + 1)
  omega
theorem rt_o_abs {G : rt_G} {d : Nat} {K : rt_K} {Q : rt_Q} {pc : Nat} {lv : rt_V} {I : rt_I} {L : rt_L} {r : Nat} {t : List Value} {q : Nat} {x : Int32} (hw : Cond.methodLink K.1.cls q Lib.Math.abs.name ∈ rt_tbl) (hsm : rt_sm t ≤ 8) (hd : decode K.2.1 pc = .ok (.invokestatic q, 3)) (h : rt_AW G (d + 1) K Q (pc + 3) lv (.int (rt_abs x) :: t) I L r) : rt_AW G (d + 1) K Q pc lv (.int x :: t) I L r := by
  intro l p e s m args below meth c H locs ls C hP hS hl
  have ht := C.2.2.2.2.2.1
  obtain ⟨w1, w2⟩ := rt_mth
  refine va_mabs C.1 C.2.1 (C.2.2.2.1.trans hl.2.1.symm) C.2.2.2.2.1 (ht _ hw) (ht _ w2.2.2.1) (ht _ w1) (ht _ w2.2.2.2) (by show 1 ≤ d + 1; omega) ?_ (Nat.le_refl _) (Nat.le_refl _) hd (h l p e s m args below meth c H locs ls C hP hS hl)
  rw [rt_sm_map]
  show rt_sm t + 13 ≤ 80 * (d + 1)
  omega
