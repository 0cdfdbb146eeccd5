/-! METHODS THAT MAY THROW: the judgement over the picture, its rows -/
theorem xNw_cast {a b' : String} {u U : State} (hvm : u.vm.Alike U.vm) (h : va_Nw (.castable a b') u) : va_Nw (.castable a b') U := va_tabs rfl (rfl : (u.setVm U.vm).vm = U.vm) (by rw [Cond.castable_setVm hvm]; exact h)
theorem xNw_decl {x : MethodName} {u U : State} (hvm : u.vm.Alike U.vm) (h : va_Nw (.declares x) u) : va_Nw (.declares x) U := va_tabs rfl (rfl : (u.setVm U.vm).vm = U.vm) (by rw [Cond.declares_setVm hvm]; exact h)
/-- what a throw asks of the heap and of the tables -/
def xOK (A : Nat → Prop) (U : State) (H : Heap) : Prop :=
  (vx_Zq Bundle.tN "UNASSIGNED_STACK" Bundle.steD A U H ∧ vx_Zq Bundle.tN "SUPPRESSED_SENTINEL" Bundle.listD A U H) ∧ va_Nw xW0 U ∧ va_Nw xW1 U ∧ va_Nw xW2 U ∧ va_Nw xW3 U
theorem xOK.moved {A : Nat → Prop} {u U : State} {H : Heap} (hvm : u.vm.Alike U.vm) (h : xOK A u H) : xOK A U H :=
  ⟨⟨vx_Zq.moved hvm h.1.1, vx_Zq.moved hvm h.1.2⟩, xNw_cast hvm h.2.1, xNw_decl hvm h.2.2.1, xNw_decl hvm h.2.2.2.1, xNw_decl hvm h.2.2.2.2⟩
theorem xOK.kept {A : Nat → Prop} {U : State} {H H1 : Heap} (h : xOK A U H) (hq : ∀ a : Nat, a < H.size → ¬ A a → H1[a]? = H[a]?) : xOK A U H1 := ⟨⟨h.1.1.kept hq, h.1.2.kept hq⟩, h.2⟩
theorem xOK.narrow {A B : Nat → Prop} {U : State} {H : Heap} (h : xOK A U H) (hAB : ∀ q, B q → A q) : xOK B U H := ⟨⟨h.1.1.narrow hAB, h.1.2.narrow hAB⟩, h.2⟩
def xrm (d : Nat) : Room := { frames := d + 8, cells := 1, slots := 6, locals := 80 * (d + 8) }
def xN : Type := rt_I → rt_L → Nat → Prop
/-- how it throws: the picture as N says -/
def xX (G : rt_G) (N : rt_I → rt_L → Nat → Prop) : String → State → State → Prop := fun E st t => E = xNSE ∧ (∃ I L r, N I L r ∧ rt_P G I L r t.heap) ∧ va_F (rt_A G) st t
def xPc (G : rt_G) (av : List Value) (I : rt_I) (L : rt_L) (r : Nat) : Array Value → State → Prop := va_Pc (av.map (rt_v G.2.2.2)) (fun U => (rt_P G I L r U.heap ∧ rt_KK G U ∧ rt_J G) ∧ xOK (rt_A G) U U.heap)
/-- the contract of a method that may throw -/
def xCall (G : rt_G) (d : Nat) (K : rt_K) (av : List Value) (I : rt_I) (L : rt_L) (r : Nat) (Q : rt_Q) (N : rt_I → rt_L → Nat → Prop) : Prop :=
  ∀ l : Launch, l.stackTraces = false → vx_Met l K.1 (rt_ws K) (xrm d) (xPc G av I L r) (rt_Qc G K Q) (xX G N) 1 6 (rt_A G)
def xAW (G : rt_G) (d : Nat) (K : rt_K) (Q : rt_Q) (N : rt_I → rt_L → Nat → Prop) (pc : Nat) (lv : rt_V) (st : List Value) (I : rt_I) (L : rt_L) (r : Nat) : Prop :=
  ∀ (l : Launch) (p : Program) (e : Env) (s : State) (m : MethodId) (args : Array Value) (below : List Frame) (meth : Method) (c : Code) (H : Heap) (locs : List Loc) (ls : Array Slot),
    l.stackTraces = false → xOK (rt_A G) s s.heap → (∀ x ∈ c.exceptionTable.toList, False) →
    rt_C G K p s m args meth c → rt_P G I L r H → va_S (rt_A G) s.heap H locs → rt_lv G.2.2.2 K.2.2.1 ls lv →
    W p l e (xrm d) s m args below meth c H locs 0 0 (vx_MQ below (rt_Qc G K Q) (xX G N) args s 1 6 (rt_A G)) (F0 m pc ls (st.map (rt_v G.2.2.2)))
theorem stand_room {p : Program} {l : Launch} {e : Env} {R R' : Room} {s : State} {m : MethodId} {args : Array Value} {below : List Frame} {meth : Method} {c : Code} {T : State} {locs : List Loc} {k n : Nat}
    (h1 : R.frames ≤ R'.frames) (h2 : R.cells ≤ R'.cells) (h3 : R.slots ≤ R'.slots) (h4 : R.locals ≤ R'.locals) (X : Stand p l e R' s m args below meth c T locs k n) : Stand p l e R s m args below meth c T locs k n := by
  refine ⟨X.admits, X.cas, X.clock, X.frames, ?_, X.hears, X.method, X.code, X.here, X.tail, X.warmed, X.limits, X.bytes, X.same⟩
  have h := X.room
  simp only [State.hasRoom, Bool.and_eq_true, decide_eq_true_eq] at h ⊢
  obtain ⟨⟨⟨⟨a1, b1, b2, b3, b4, b5⟩, a3⟩, a4⟩, a5⟩ := h
  exact ⟨⟨⟨⟨by omega, by omega, by omega, by omega, by omega, b5⟩, by omega⟩, by omega⟩, a5⟩
section
variable {G : rt_G} {d : Nat} {K : rt_K} {Q : rt_Q} {N : rt_I → rt_L → Nat → Prop} {pc : Nat} {lv : rt_V} {st t : List Value} {I : rt_I} {L : rt_L} {r : Nat}
/-- from here on nothing is thrown -/
theorem xAW.calm (h : rt_AW G d K Q pc lv st I L r) : xAW G d K Q N pc lv st I L r := by
  intro l p e s m args below meth c H locs ls hl hO hT C hP hS hlv
  refine vx_ret ?_
  intro T hT2 X
  obtain ⟨t, a1, o, b1, b2, b3, L2, b4, b5⟩ := h l p e s m args below meth c H locs ls C hP hS hlv T hT2 (stand_room (R := rt_rm d) (by show d ≤ d + 8; omega) (by show 0 ≤ 1; omega) (by show 0 ≤ 6; omega) (by show 80 * d ≤ 80 * (d + 8); omega) X)
  exact ⟨t, a1, o, b1, b2, b3, L2, ⟨b4.1, b4.2.1, b4.2.2.mono (by omega) (by omega)⟩, b5⟩
theorem xAW.aload_n {i : Fin 4} {x : Nat} (hv : lv[(i : Nat)]? = some (some (.ref x))) (hd : decode K.2.1 pc = .ok (.aload_n i, 1)) (h : xAW G d K Q N (pc + 1) lv (.ref x :: st) I L r) : xAW G d K Q N pc lv st I L r :=
  fun l p e s m args below meth c H locs ls a1 a2 a3 C hP hS hl => lv_aload_n C.1 C.2.1 hd rfl (rt_lv_at hl hv) (h l p e s m args below meth c H locs ls a1 a2 a3 C hP hS hl)
theorem xAW.iload_n {i : Fin 4} {x : Int32} (hv : lv[(i : Nat)]? = some (some (.int x))) (hd : decode K.2.1 pc = .ok (.iload_n i, 1)) (h : xAW G d K Q N (pc + 1) lv (.int x :: st) I L r) : xAW G d K Q N pc lv st I L r :=
  fun l p e s m args below meth c H locs ls a1 a2 a3 C hP hS hl => lv_iload_n C.1 C.2.1 hd rfl (rt_lv_at hl hv) (h l p e s m args below meth c H locs ls a1 a2 a3 C hP hS hl)
theorem xAW.bipush {x : Int} (hx : rt_in8 x = true) (hd : decode K.2.1 pc = .ok (.bipush x, 2)) (h : xAW G d K Q N (pc + 2) lv (.int (rt_ic x) :: st) I L r) : xAW G d K Q N pc lv st I L r :=
  fun l p e s m args below meth c H locs ls a1 a2 a3 C hP hS hl => lv_bipush C.1 C.2.1 hd (rt_ic8 hx) (h l p e s m args below meth c H locs ls a1 a2 a3 C hP hS hl)
theorem xAW.istore {i : Nat} {x : Int32} (ho : rt_okS lv i = true) (hd : decode K.2.1 pc = .ok (.istore i, 2)) (h : xAW G d K Q N (pc + 2) (lv.set i (some (.int x))) t I L r) : xAW G d K Q N pc lv (.int x :: t) I L r :=
  fun l p e s m args below meth c H locs ls a1 a2 a3 C hP hS hl => lv_istore C.1 C.2.1 hd hl.2 (by rw [← hl.1]; exact (rt_okS_inv ho).1) rfl (fun ls' hl' => h l p e s m args below meth c H locs ls' a1 a2 a3 C hP hS (rt_lv_set (v := .int x) hl.1 ho hl'))
theorem xAW.istore_n {i : Fin 4} {x : Int32} (ho : rt_okS lv (i : Nat) = true) (hd : decode K.2.1 pc = .ok (.istore_n i, 1)) (h : xAW G d K Q N (pc + 1) (lv.set (i : Nat) (some (.int x))) t I L r) : xAW G d K Q N pc lv (.int x :: t) I L r :=
  fun l p e s m args below meth c H locs ls a1 a2 a3 C hP hS hl => lv_istore_n C.1 C.2.1 hd rfl hl.2 (by rw [← hl.1]; exact (rt_okS_inv ho).1) rfl (fun ls' hl' => h l p e s m args below meth c H locs ls' a1 a2 a3 C hP hS (rt_lv_set (v := .int x) hl.1 ho hl'))
theorem xAW.ifCond {x : Int32} {cd : Jvm.ClassFile.Cond} {off : Int} (ht : rt_tk pc off = true) (hd : decode K.2.1 pc = .ok (.ifCond cd off, 3)) (h : rt_br cd x 0 (xAW G d K Q N (rt_tg pc off) lv t I L r) (xAW G d K Q N (pc + 3) lv t I L r)) : xAW G d K Q N pc lv (.int x :: t) I L r := by
  intro l p e s m args below meth c H locs ls a1 a2 a3 C hP hS hl
  cases cd
  case eq => exact lv_if_eq C.1 C.2.1 hd (rt_tg_eq ht) (fun q => h.1 q l p e s m args below meth c H locs ls a1 a2 a3 C hP hS hl) (fun q => h.2 q l p e s m args below meth c H locs ls a1 a2 a3 C hP hS hl)
  case ne => exact lv_if_ne C.1 C.2.1 hd (rt_tg_eq ht) (fun q => h.1 q l p e s m args below meth c H locs ls a1 a2 a3 C hP hS hl) (fun q => h.2 q l p e s m args below meth c H locs ls a1 a2 a3 C hP hS hl)
  case lt => exact lv_if_lt C.1 C.2.1 hd (rt_tg_eq ht) (fun q => h.1 q l p e s m args below meth c H locs ls a1 a2 a3 C hP hS hl) (fun q => h.2 q l p e s m args below meth c H locs ls a1 a2 a3 C hP hS hl)
  case ge => exact lv_if_ge C.1 C.2.1 hd (rt_tg_eq ht) (fun q => h.1 q l p e s m args below meth c H locs ls a1 a2 a3 C hP hS hl) (fun q => h.2 q l p e s m args below meth c H locs ls a1 a2 a3 C hP hS hl)
  case gt => exact lv_if_gt C.1 C.2.1 hd (rt_tg_eq ht) (fun q => h.1 q l p e s m args below meth c H locs ls a1 a2 a3 C hP hS hl) (fun q => h.2 q l p e s m args below meth c H locs ls a1 a2 a3 C hP hS hl)
  case le => exact lv_if_le C.1 C.2.1 hd (rt_tg_eq ht) (fun q => h.1 q l p e s m args below meth c H locs ls a1 a2 a3 C hP hS hl) (fun q => h.2 q l p e s m args below meth c H locs ls a1 a2 a3 C hP hS hl)
theorem xAW.icmp_lt {x y : Int32} {off : Int} (ht : rt_tk pc off = true) (hd : decode K.2.1 pc = .ok (.if_icmp .lt off, 3)) (h1 : x < y → xAW G d K Q N (rt_tg pc off) lv t I L r) (h2 : ¬ x < y → xAW G d K Q N (pc + 3) lv t I L r) : xAW G d K Q N pc lv (.int y :: .int x :: t) I L r := by
  intro l p e s m args below meth c H locs ls a1 a2 a3 C hP hS hl
  exact lv_icmp_lt C.1 C.2.1 hd (rt_tg_eq ht) (fun q => h1 q l p e s m args below meth c H locs ls a1 a2 a3 C hP hS hl) (fun q => h2 q l p e s m args below meth c H locs ls a1 a2 a3 C hP hS hl)
theorem xAW.tsw_out {x : Int32} {dflt lo hi : Int} {offs : Array Int} {n : Nat} (ht : rt_tk pc dflt = true) (hd : decode K.2.1 pc = .ok (.tableswitch dflt lo hi offs, n)) (hx : x.toInt < lo ∨ hi < x.toInt) (h : xAW G d K Q N (rt_tg pc dflt) lv t I L r) : xAW G d K Q N pc lv (.int x :: t) I L r := by
  intro l p e s m args below meth c H locs ls a1 a2 a3 C hP hS hl
  exact lv_tableOut C.1 C.2.1 hd hx (rt_tg_eq ht) (h l p e s m args below meth c H locs ls a1 a2 a3 C hP hS hl)
theorem xAW.getfield {x ci j tt q : Nat} (hf : rt_okf K.1.cls x ci j tt) (ho : rt_isO q ci j = true) (hd : decode K.2.1 pc = .ok (.getfield x, 3)) (h : xAW G d K Q N (pc + 3) lv (rt_gv I r ci q j :: t) I L r) (hg : rt_gok r q j = true := by rfl) : xAW G d K Q N pc lv (.ref q :: t) I L r := by
  intro l p e s m args below meth c H locs ls x1 x2 x3 C hP hS hl
  obtain ⟨⟨C0, T0, N0⟩, h1, h2, h3, -⟩ := hf
  obtain ⟨a1, a2, a3⟩ := rt_isO_inv ho
  have he := rt_W_at (G := G) (I := I) (L := L) (r := r) a1
  rw [rt_en_o a2] at he
  refine va_get (v := rt_fv G.2.2.2 I r ci q j) (ref := (T0 j).1) C.1 C.2.1 C.2.2.2.2.2.1 (rt_cls ci _ h1).1 C.2.2.2.2.1 C.2.2.2.2.2.2.2.1 hP q he h1 j h2 (C.2.2.2.2.2.1 _ h3) (fun _ z => z) ?_ hd ?_
  · rw [List.getElem?_map, List.getElem?_range a3]
    rfl
  · rw [← rt_gv_v hg]
    exact h l p e s m args below meth c H locs ls x1 x2 x3 C hP hS hl
theorem xAW.iaload {q : Nat} {j : Int32} (ho : rt_isA q 0 = true) (hj : vp_in j (rt_lay q).2) (hd : decode K.2.1 pc = .ok (.iaload, 1)) (h : xAW G d K Q N (pc + 1) lv (.int (I q j.toNatClampNeg) :: t) I L r) : xAW G d K Q N pc lv (.int j :: .ref q :: t) I L r := by
  intro l p e s m args below meth c H locs ls x1 x2 x3 C hP hS hl
  obtain ⟨a1, a2⟩ := rt_isA_inv ho
  have he := rt_W_at (G := G) (I := I) (L := L) (r := r) a1
  rw [rt_en_i a2] at he
  exact va_iald C.1 C.2.1 C.2.2.2.2.2.2.2.1 hP q 0 he rfl hj hd (h l p e s m args below meth c H locs ls x1 x2 x3 C hP hS hl)
theorem xAW.invv {K' : rt_K} {n x b ci : Nat} {as : List Value} {Q' : rt_Q} (hw : Cond.methodLink K.1.cls x K'.1 ∈ rt_tbl) (hok : rt_okK K' n (some ci)) (hn : as.length = n) (ho : rt_isO b ci 0 = true) (hsm : rt_sm t ≤ 8) (hd : decode K.2.1 pc = .ok (.invokevirtual x, 3))
    (hc : rt_Call G d K' (.ref b :: as) I L r Q') (h : ∀ v I' L' r', Q' v I' L' r' → xAW G d K Q N (pc + 3) lv (rt_pu K' v t) I' L' r') : xAW G d K Q N pc lv (as.reverse ++ .ref b :: t) I L r := by
  intro l p e s m args below meth c H locs ls x1 x2 x3 C hP hS hl
  obtain ⟨a1, a2, a3⟩ := rt_isO_inv ho
  have he := rt_W_at (G := G) (I := I) (L := L) (r := r) a1
  rw [rt_en_o a2] at he
  obtain ⟨h1, h2, h3, h4, h5, h6, q, h7, h8⟩ := id hok
  have hK := C.2.2.2.2.2.2.2.1
  have cb : CallB (xrm d) s args K.1.cls x K'.1 K'.2.1 K'.2.2.1 K'.2.2.2 (rt_ws K') (rt_rm d) 0 0 n :=
    callB_of n C.2.2.2.2.2.1 (rt_goodIn h1) rfl rfl rfl (C.2.2.2.2.2.1 _ h2) (C.2.2.2.2.2.1 _ hw) h3 ⟨by show d + 1 ≤ d + 8; omega, by show 8 + (K'.2.2.1 + 11) + 80 * d ≤ 80 * (d + 8); omega⟩
  have hrun := va_runV (l := l) (R := xrm d) (below := below) (meth := meth) (H := H) (locs := locs) (cells := 0) (slots := 0) (e := e) (C := K'.1.cls) (b := G.2.2.2 b) (As := as.map (rt_v G.2.2.2)) (rest := t.map (rt_v G.2.2.2)) (g := F0 m pc ls ((as.reverse ++ .ref b :: t).map (rt_v G.2.2.2))) ⟨C.1, C.2.1, C.2.2.2.1, C.2.2.2.2.1, C.2.2.2.2.2.1⟩ (hc l) ⟨cb, C.2.2.2.2.2.1 _ h5, C.2.2.2.2.2.1 _ h6⟩
    ⟨rt_blind, by rw [← h8]; exact va_recv hK hP h7 he, fun U hU hW => ⟨rfl, by rw [hU]; exact hP, rt_K_moved hW.alike hK, C.2.2.2.2.2.2.2.2⟩⟩ rfl (by rw [List.length_map]; exact hn) hl.2.1 (by simp [rt_v]) (lv_room (by rw [rt_sm_map]; exact hsm)) hd ⟨by show 0 + 0 ≤ 1; omega, by show 0 + 0 ≤ 6; omega⟩
  exact rt_after hrun hS (fun v I' L' r' H1 locs1 hq hP1 hS1 => h v I' L' r' hq l p e s m args below meth c H1 locs1 ls x1 x2 x3 C hP1 hS1 hl)
/-- 'throw new NoSuchElementException()' -/
theorem xAW.throw (hK : K.1.cls = "RoadsWithTides") (hst : rt_sm st ≤ 8) (d0 : decode K.2.1 pc = .ok (.new 141, 3)) (d3 : decode K.2.1 (pc + 3) = .ok (.dup, 1)) (d4 : decode K.2.1 (pc + 4) = .ok (.invokespecial 143, 3)) (d7 : decode K.2.1 (pc + 7) = .ok (.athrow, 1)) (h : N I L r) : xAW G d K Q N pc lv st I L r := by
  intro l p e s m args below meth c H locs ls x1 x2 x3 C hP hS hl
  have own : s.vm.findClass "RoadsWithTides" = some m.cls := by rw [← hK]; exact C.2.2.2.2.1
  have good : ∀ w ∈ xWs.filter goodWord, w.before args s = true := fun w hw => C.2.2.2.2.2.1 w (List.mem_filter.mpr ⟨xWs_good w hw, (List.mem_filter.mp hw).2⟩)
  have hat : ∀ w ∈ vx_at0 "RoadsWithTides" 143 xNSE xNames, w.before args s = true := vx_hat good xWs_bad (vx_c (va_Nw.use rfl x2.2.1) (vx_c (va_Nw.use rfl x2.2.2.1) (vx_c (va_Nw.use rfl x2.2.2.2.1) (vx_c (va_Nw.use rfl x2.2.2.2.2) vx_n))))
  refine vx_throw0 (A := rt_A G) (names := xNames) (ik := 141) (ic := 143) (cls := xNSE) (own := "RoadsWithTides") C.1 C.2.1 x1 own (by decide +kernel) (by decide +kernel) (C.2.2.2.2.2.1 _ (rt_at 1178 (by decide +kernel) (by decide +kernel))) (C.2.2.2.2.2.1 _ (rt_at 98 (by decide +kernel) (by decide +kernel))) hat xWs_ot
    x2.1.1 x2.1.2 hS (by rw [hl.2.1, C.2.2.2.1]) d0 d3 d4 d7 (fun x hx => absurd hx (fun z => x3 x z)) (by show 2 + 3 < d + 8; omega) ?_ (by show 0 + 1 ≤ 1; omega) (by show 0 + 6 ≤ 6; omega) C.2.2.2.2.2.2.1 (fun t hvm hsz hkp => ⟨rfl, ⟨I, L, r, h, ?_⟩, ?_⟩) hS.2.2 (by omega) (by omega)
  · rw [rt_sm_map]
    show rt_sm st + (13 * (2 + 1) + 42) ≤ 80 * (d + 8)
    omega
  · exact hP.kept (fun k q hk => hkp q.1 (vx_lt hP hk))
  · exact ⟨Nat.le_trans hS.1 hsz, fun q hq hA => by rw [hkp q (Nat.lt_of_lt_of_le hq hS.1)]; exact hS.2.1 q hq hA⟩
end
