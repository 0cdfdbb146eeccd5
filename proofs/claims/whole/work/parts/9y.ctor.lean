/-! CONSTRUCTORS: the judgement over a world that grows, its rows -/
def kiNest : List (String × Nat × MethodName × String) := [(RX11, 9, yX7_init, RX11), (RX11, 25, yX6_init, RX11), (RX11, 32, yX2_init, RX11), (RX2, 11, yX4_init, RX11), (RX1, 22, yX4_init, RX11), (RX11, 55, yX0_init, RX11), (RX11, 71, yX3_init, RX11), (RX11, 78, yX5_init, RX11)]
def kiNe (U : State) : Prop := (∀ w ∈ kiNest, va_Nw (.methodLinkNest w.1 w.2.1 w.2.2.1 w.2.2.2) U) ∧ va_AO RX4 U
theorem kiNe.warm {s U : State} (hW : s.WarmedH U.vm) (h : kiNe s) : kiNe U := ⟨fun w hw => va_Nw.warmM hW (h.1 w hw), h.2.moved hW.alike⟩
theorem kiNe.call {U V : State} (hv : U.vm = V.vm) (h : kiNe U) : kiNe V := ⟨fun w hw => va_Nw.same rfl hv (h.1 w hw), h.2.moved (hv ▸ Vm.Alike.refl U.vm)⟩
abbrev kiD (G : rt_G) : va_G := (G.1, G.2.1)
def kiC (G : rt_G) (K : rt_K) (p : Program) (s : State) (m : MethodId) (args : Array Value) (meth : Method) (c : Code) : Prop :=
  p.tables.exec = Jvm.exec ∧ c.code = K.2.1 ∧ meth.sig.returnType = none ∧ c.maxLocals = K.2.2.1 ∧ s.vm.findClass K.1.cls = some m.cls ∧ (∀ w ∈ rt_tbl, w.before args s = true) ∧ meth.locks = false ∧ rt_KK G s ∧ meth.name = "<init>" ∧ kiNe s
/-- what comes: some addresses a, the world W a -/
def kiQ (G : rt_G) (W : (Nat → Nat) → va_W) (A : Nat → Prop) : Array Value → State → Outcome → State → Prop := fun _ st o t => (o = .returned none ∧ ∃ a : Nat → Nat, va_P (kiD G) vwCl (W a) t.heap ∧ va_D A (W a)) ∧ va_F A st t
def kiAW (G : rt_G) (R : Room) (K : rt_K) (ex : va_W) (A : Nat → Prop) (mc ms : Nat) (fin : (Nat → Nat) → va_W) (k n pc : Nat) (lv : List (Nat × Value)) (st : List Value) (ws : va_W) : Prop :=
  ∀ (l : Launch) (p : Program) (e : Env) (s : State) (m : MethodId) (args : Array Value) (below : List Frame) (meth : Method) (c : Code) (H : Heap) (locs : List Loc) (ls : Array Slot),
    kiC G K p s m args meth c → (∀ (i : Nat) (q : Nat × va_E), ex[i]? = some q → ¬ A q.1) → va_P (kiD G) vwCl ex s.heap → (∀ q : Nat, s.heap.size ≤ q → A q) → va_P (kiD G) vwCl ws H → va_D A ws → va_S A s.heap H locs → lv_has ls K.2.2.1 lv →
    W p l e R s m args below meth c H locs k n (MQ below (kiQ G fin A) args s mc ms A) (F0 m pc ls st)
def kiPc (G : rt_G) (sz : Nat) (av : List Value) (h0 : Nat) (e0 : va_E) (ex : va_W) : Array Value → State → Prop := va_Pc av (fun U => U.heap.size = sz ∧ va_P (kiD G) vwCl [(h0, e0)] U.heap ∧ (va_P (kiD G) vwCl ex U.heap ∧ ∀ (i : Nat) (q : Nat × va_E), ex[i]? = some q → q.1 ≠ h0) ∧ rt_KK G U ∧ kiNe U)
def kiCall (G : rt_G) (R : Room) (K : rt_K) (mc ms : Nat) (av : List Value) (h0 : Nat) (e0 : va_E) (ex : va_W) (fin : (Nat → Nat) → va_W) : Prop :=
  ∀ (l : Launch) (sz : Nat), Met l K.1 (rt_ws K) R (kiPc G sz av h0 e0 ex) (kiQ G fin (va_A [(h0, e0)] sz)) mc ms (va_A [(h0, e0)] sz)
theorem ki_blind {G : rt_G} {sz : Nat} {av : List Value} {h0 : Nat} {e0 : va_E} {ex : va_W} : FrameBlind (kiPc G sz av h0 e0 ex) := by
  intro a U g mk q
  obtain ⟨q0, q1, q2, q3, q4, q5⟩ := q
  exact ⟨q0, q1, q2, q3, rt_K_moved (u := U) (U := U.calling g mk a) (Vm.Alike.refl U.vm) q4, q5.call rfl⟩
theorem ki_one {A : Nat → Prop} {a : Nat} {e0 : va_E} (h : A a) : va_D A [(a, e0)] := by
  refine ⟨fun i j p q hp hq _ => ?_, fun k q hk => ?_⟩
  · have h1 : i < 1 := (List.getElem?_eq_some_iff.mp hp).1
    have h2 : j < 1 := (List.getElem?_eq_some_iff.mp hq).1
    omega
  · have hz : k < 1 := (List.getElem?_eq_some_iff.mp hk).1
    rw [show k = 0 by omega] at hk
    cases hk
    exact h
theorem ki_at1 {a : Nat} {e0 : va_E} {k : Nat} {q : Nat × va_E} (hk : ([(a, e0)] : va_W)[k]? = some q) : q = (a, e0) := by
  have hz : k < 1 := (List.getElem?_eq_some_iff.mp hk).1
  rw [show k = 0 by omega] at hk
  exact (Option.some.inj hk).symm
/-- a world and another apart from it -/
theorem ki_Dapp {A B : Nat → Prop} {w1 w2 : va_W} (h1 : va_D A w1) (h2 : va_D B w2) (hB : ∀ q, B q → A q) (hx : ∀ (k : Nat) (q : Nat × va_E), w1[k]? = some q → ¬ B q.1) : va_D A (w1 ++ w2) := by
  have key : ∀ (k : Nat) (q : Nat × va_E), (w1 ++ w2)[k]? = some q → (k < w1.length ∧ w1[k]? = some q) ∨ (w1.length ≤ k ∧ w2[k - w1.length]? = some q) := by
    intro k q hk
    by_cases hl : k < w1.length
    · rw [List.getElem?_append_left hl] at hk
      exact Or.inl ⟨hl, hk⟩
    · rw [List.getElem?_append_right (by omega)] at hk
      exact Or.inr ⟨by omega, hk⟩
  refine ⟨fun i j p q hp hq e => ?_, fun k q hk => ?_⟩
  · rcases key i p hp with ⟨a1, b1⟩ | ⟨a1, b1⟩ <;> rcases key j q hq with ⟨a2, b2⟩ | ⟨a2, b2⟩
    · exact h1.1 i j p q b1 b2 e
    · exact absurd (by rw [e]; exact h2.2 _ q b2) (hx i p b1)
    · exact absurd (by rw [← e]; exact h2.2 _ p b1) (hx j q b2)
    · have := h2.1 _ _ p q b1 b2 e
      omega
  · rcases key k q hk with ⟨a1, b1⟩ | ⟨a1, b1⟩
    · exact h1.2 k q b1
    · exact hB _ (h2.2 _ q b1)
section
variable {G : rt_G} {R : Room} {K : rt_K} {ex ws rs : va_W} {A : Nat → Prop} {mc ms : Nat} {fin : (Nat → Nat) → va_W} {k n pc : Nat} {lv lv' : List (Nat × Value)} {st : List Value}
theorem ki_enter {av : List Value} {h0 : Nat} {e0 : va_E} (hy : plainName K.1.cls = true) (hret : K.2.2.2 = none) (hnm : K.1.name = "<init>") (hn : (lg_sl av).length ≤ K.2.2.1) (hlv : lv_args 0 av = lv)
    (h : ∀ A : Nat → Prop, kiAW G R K ex A mc ms fin 0 0 0 lv [] [(h0, e0)]) : kiCall G R K mc ms av h0 e0 ex fin := by
  intro l sz
  refine Met.ofW (cc := K.2.1) (maxL := K.2.2.1) (ret := K.2.2.2) (ws' := rt_tbl) hy rfl ?_
  intro p e s m args below meth c s₁ B hml hv
  obtain ⟨rfl, rfl, hP, ⟨hE, hex⟩, hK, hN⟩ := hv
  have hts := atoms_spec (ws := rt_ws K) B.pre
  have hown : s.vm.findClass K.1.cls = some m.cls := findClass_of_methodNamed B.named
  have hin : meth.name = "<init>" := by rw [← hnm]; exact (name_of_methodNamed B.named B.method).1
  have hl := lv_entry av hn
  rw [hlv] at hl
  rw [lg_entry_eq]
  refine h _ l p e s m _ below meth c s.heap [] _ ⟨B.exec, B.bytes, B.returns.trans hret, hml, hown, fun w hw => hts w (List.mem_cons_of_mem _ hw), B.notSynchronized, hK, hin, hN⟩ (fun i q hi => ?_) hE (fun q hq => Or.inr hq) hP (ki_one (Or.inl ⟨0, e0, rfl⟩)) va_S.rf hl
  rintro (⟨k, e1, hk⟩ | hq)
  · exact hex i q hi (by have := ki_at1 hk; cases this; rfl)
  · exact absurd (vx_lt hE hi) (by omega)
theorem ki_aload_n {i : Fin 4} {j place x : Nat} (hd : decode K.2.1 pc = .ok (.aload_n i, 1)) (hi : (i : Nat) = j) (hv : lv[place]? = some (j, .ref x)) (h : kiAW G R K ex A mc ms fin k n (pc + 1) lv (.ref x :: st) ws) : kiAW G R K ex A mc ms fin k n pc lv st ws := by
  intro l p e s m args below meth c H locs ls C hx hE hA hP hD hS hl
  exact lv_aload_n C.1 C.2.1 hd hi (lv_at hl place hv) (h l p e s m args below meth c H locs ls C hx hE hA hP hD hS hl)
theorem ki_obj {x idx : Nat} (hw : Cond.methodLink K.1.cls idx Lib.objectInit ∈ rt_tbl) (hR : 1 ≤ R.frames ∧ rt_sm st + 12 ≤ R.locals) (hd : decode K.2.1 pc = .ok (.invokespecial idx, 3)) (h : kiAW G R K ex A mc ms fin k n (pc + 3) lv st ws) : kiAW G R K ex A mc ms fin k n pc lv (.ref x :: st) ws := by
  intro l p e s m args below meth c H locs ls C hx hE hA hP hD hS hl
  have hts := C.2.2.2.2.2.1
  refine W.objInit C.1 C.2.1 C.2.2.2.2.1 (hts _ hw) (hts _ (rt_at 109 (by decide +kernel) (by decide +kernel))) (hts _ (rt_at 110 (by decide +kernel) (by decide +kernel))) rfl (by rw [C.2.2.2.1]; exact hl.1) rfl hd hR.1 ?_ ?_
  · have := hR.2
    show 2 * 0 + rt_sm st + 12 ≤ R.locals
    omega
  · refine W.eq (g2 := F0 m (pc + 3) ls st) rfl ?_
    exact h l p e s m args below meth c H locs ls C hx hE hA hP hD hS hl
theorem ki_iconst {x : Int} {v : Int32} (hd : decode K.2.1 pc = .ok (.iconst x, 1)) (hv : Int32.ofInt x = v) (h : kiAW G R K ex A mc ms fin k n (pc + 1) lv (.int v :: st) ws) : kiAW G R K ex A mc ms fin k n pc lv st ws := by
  intro l p e s m args below meth c H locs ls C hx hE hA hP hD hS hl
  exact lv_iconst C.1 C.2.1 hd hv (h l p e s m args below meth c H locs ls C hx hE hA hP hD hS hl)
theorem ki_bipush {x : Int} {v : Int32} (hd : decode K.2.1 pc = .ok (.bipush x, 2)) (hv : (Int8.ofInt x).toInt32 = v) (h : kiAW G R K ex A mc ms fin k n (pc + 2) lv (.int v :: st) ws) : kiAW G R K ex A mc ms fin k n pc lv st ws := by
  intro l p e s m args below meth c H locs ls C hx hE hA hP hD hS hl
  exact lv_bipush C.1 C.2.1 hd hv (h l p e s m args below meth c H locs ls C hx hE hA hP hD hS hl)
theorem ki_sipush {x : Int} {v : Int32} (hd : decode K.2.1 pc = .ok (.sipush x, 3)) (hv : (Int16.ofInt x).toInt32 = v) (h : kiAW G R K ex A mc ms fin k n (pc + 3) lv (.int v :: st) ws) : kiAW G R K ex A mc ms fin k n pc lv st ws := by
  intro l p e s m args below meth c H locs ls C hx hE hA hP hD hS hl
  exact lv_sipush C.1 C.2.1 hd hv (h l p e s m args below meth c H locs ls C hx hE hA hP hD hS hl)
theorem ki_ldc {x : Nat} {v : Int32} (hw : Cond.constant K.1.cls x v ∈ rt_tbl) (hd : decode K.2.1 pc = .ok (.ldc x, 2)) (h : kiAW G R K ex A mc ms fin k n (pc + 2) lv (.int v :: st) ws) : kiAW G R K ex A mc ms fin k n pc lv st ws := by
  intro l p e s m args below meth c H locs ls C hx hE hA hP hD hS hl
  exact lv_ldc C.1 C.2.1 C.2.2.2.2.1 (C.2.2.2.2.2.1 _ hw) hd (h l p e s m args below meth c H locs ls C hx hE hA hP hD hS hl)
theorem ki_dup {v : Value} (hv : v.category = 1) (hd : decode K.2.1 pc = .ok (.dup, 1)) (h : kiAW G R K ex A mc ms fin k n (pc + 1) lv (v :: v :: st) ws) : kiAW G R K ex A mc ms fin k n pc lv (v :: st) ws := by
  intro l p e s m args below meth c H locs ls C hx hE hA hP hD hS hl
  exact lv_dup C.1 C.2.1 hd hv (h l p e s m args below meth c H locs ls C hx hE hA hP hD hS hl)
theorem ki_new {ci N idx : Nat} {CC : String} {T : u_T} {fs : List Value} (hc : vwCl[ci]? = some (CC, T, N)) (ty : Nat → FieldType) (hty : ∀ j, j < N → parseFieldDescriptor (T j).2.2.1 = some (ty j)) (hfs : ∀ j, j < N → defaultValue (ty j) = vp_V fs j)
    (w1 : Cond.classLink K.1.cls idx CC ∈ rt_tbl) (w2 : Cond.instantiable CC N ∈ rt_tbl) (w3 : Cond.initialized CC ∈ rt_tbl) (hk : k + 1 ≤ R.cells ∧ n + N ≤ R.slots) (hd : decode K.2.1 pc = .ok (.new idx, 3))
    (h : ∀ q : Nat, kiAW G R K ex A mc ms fin (k + 1) (n + N) (pc + 3) lv (.ref q :: st) (ws ++ [(q, .inr (ci, fs))])) : kiAW G R K ex A mc ms fin k n pc lv st ws := by
  intro l p e s m args below meth c H locs ls C hx hE hA hP hD hS hl
  have hts := C.2.2.2.2.2.1
  exact va_new C.1 C.2.1 hts (rt_cls ci _ hc).1 ty hty C.2.2.2.2.1 (hts _ w1) (hts _ w2) (hts _ w3) C.2.2.2.2.2.2.2.1 hP hD hS hA hc hfs hk.1 hk.2 hd (fun q H1 hP1 hD1 hS1 => h q l p e s m args below meth c H1 locs ls C hx hE hA hP1 hD1 hS1 hl)
theorem ki_newa {atype : ArrayType} {ty : FieldType} {a0 : vp_A} {v : Int32} {N' t0 : Nat} (hty : newarray.typeOf atype = ty) (ht : (rt_ty G)[t0]? = some (G.2.2.1 t0, ty)) (hra : ∀ (U : State) (cA : ClassId), va_RA U cA ty → U.vm.findClass ("[" ++ ty.toString) = some cA) (hw : Cond.arrayClass ty ∈ rt_tbl) (ha : ∀ cA : ClassId, vp_cell cA a0 = arrV cA N' (fun _ => defaultValue ty)) (hn : ¬ v < 0) (hN : v.toNatClampNeg = N') (hb : N' * componentBytes ty ≤ 536870912) (hk : k + 1 ≤ R.cells ∧ n + N' ≤ R.slots) (hd : decode K.2.1 pc = .ok (.newarray atype, 2))
    (h : ∀ q : Nat, kiAW G R K ex A mc ms fin (k + 1) (n + N') (pc + 2) lv (.ref q :: st) (ws ++ [(q, .inl (G.2.2.1 t0, a0))])) : kiAW G R K ex A mc ms fin k n pc lv (.int v :: st) ws := by
  intro l p e s m args below meth c H locs ls C hx hE hA hP hD hS hl
  have hts := C.2.2.2.2.2.1
  have hK := C.2.2.2.2.2.2.2.1
  refine va_newa C.1 C.2.1 (by rw [hty]; exact hts _ hw) hty hK hP hD hS hA ha hn hN hb hk.1 hk.2 hd (fun q cA H1 hK1 hP1 hD1 hS1 => ?_)
  have e1 := hra s cA (hK1.2 (rt_ty G).length (cA, ty) (by rw [List.getElem?_append_right (Nat.le_refl _)]; simp)).2
  have e2 := hra s _ (hK.2 t0 _ ht).2
  have e3 : cA = G.2.2.1 t0 := Option.some.inj (e1.symm.trans e2)
  subst e3
  exact h q l p e s m args below meth c H1 locs ls C hx hE hA hP1 hD1 hS1 hl
theorem ki_newq {idx : Nat} {v : Int32} {N' : Nat} (w1 : Cond.classLink K.1.cls idx RX4 ∈ rt_tbl) (hn : ¬ v < 0) (hN : v.toNatClampNeg = N') (hb : N' * 4 ≤ 536870912) (hk : k + 1 ≤ R.cells ∧ n + N' ≤ R.slots) (hd : decode K.2.1 pc = .ok (.anewarray idx, 3))
    (h : ∀ q : Nat, kiAW G R K ex A mc ms fin (k + 1) (n + N') (pc + 3) lv (.ref q :: st) (ws ++ [(q, .inl (G.2.2.1 4, N', .inr (.inr (.inr (.inr (fun _ => none))))))])) : kiAW G R K ex A mc ms fin k n pc lv (.int v :: st) ws := by
  intro l p e s m args below meth c H locs ls C hx hE hA hP hD hS hl
  have hts := C.2.2.2.2.2.1
  have hK := C.2.2.2.2.2.2.2.1
  refine va_newq C.1 C.2.1 C.2.2.2.2.1 (hts _ w1) C.2.2.2.2.2.2.2.2.2.2 hK hP hD hS hA hn hN hb hk.1 hk.2 hd (fun q cA H1 hK1 hP1 hD1 hS1 => ?_)
  obtain ⟨-, -, -, -, -, e1⟩ := (hK1.2 (rt_ty G).length (cA, .object RX4) (by rw [List.getElem?_append_right (Nat.le_refl _)]; simp)).2
  obtain ⟨-, -, -, -, -, e2⟩ := (hK.2 4 (G.2.2.1 4, .object RX4) rfl).2
  have e3 : cA = G.2.2.1 4 := Option.some.inj (e1.symm.trans e2)
  subst e3
  exact h q l p e s m args below meth c H1 locs ls C hx hE hA hP1 hD1 hS1 hl
/-- a field of the object under construction: the first of the world -/
theorem ki_put {ci N idx h0 : Nat} {CC : String} {T : u_T} {fs : List Value} {v : Value} {ty : FieldType} (j : Nat) (hc : vwCl[ci]? = some (CC, T, N)) (hj : j < N) (w1 : Cond.fieldLink K.1.cls idx (T j).1 (T j).2.1 (T j).2.2.1 ∈ rt_tbl) (hcls : (T j).1 = K.1.cls) (hd1 : parseFieldDescriptor (T j).2.2.1 = some ty) (hn : narrow ty v = v) (hfit : fits ty v = true) (hlen : j < fs.length) (hd : decode K.2.1 pc = .ok (.putfield idx, 3))
    (h : kiAW G R K ex A mc ms fin k n (pc + 3) lv st ((h0, .inr (ci, fs.set j v)) :: rs)) : kiAW G R K ex A mc ms fin k n pc lv (v :: .ref h0 :: st) ((h0, .inr (ci, fs)) :: rs) := by
  intro l p e s m args below meth c H locs ls C hx hE hA hP hD hS hl
  have hts := C.2.2.2.2.2.1
  obtain ⟨u1, ty0, u2, u3⟩ := rt_cls ci _ hc
  cases hf : (T j).2.2.2 with
  | false => exact va_put C.1 C.2.1 hts u1 ty0 u2 u3 C.2.2.2.2.1 C.2.2.2.2.2.2.2.1 hP hD hS 0 rfl hc j hj (hts _ w1) (fun _ z => z) hf hd1 hn hfit hlen hd (fun H1 locs1 hP1 hD1 hS1 => h l p e s m args below meth c H1 locs1 ls C hx hE hA hP1 hD1 hS1 hl)
  | true => exact va_putF C.1 C.2.1 hts u1 ty0 u2 u3 C.2.2.2.2.1 C.2.2.2.2.2.2.2.1 hP hD hS 0 rfl hc j hj (hts _ w1) (fun _ z => z) hf C.2.2.2.2.2.2.2.2.1 hcls hd1 hn hfit hlen hd (fun H1 locs1 hP1 hD1 hS1 => h l p e s m args below meth c H1 locs1 ls C hx hE hA hP1 hD1 hS1 hl)
/-- a field read: of the world -/
theorem ki_get {ci N idx a q0 : Nat} {CC : String} {T : u_T} {fs : List Value} {v : Value} (j : Nat) (hc : vwCl[ci]? = some (CC, T, N)) (hj : j < N) (w1 : Cond.fieldLink K.1.cls idx (T j).1 (T j).2.1 (T j).2.2.1 ∈ rt_tbl) (he : ws[q0]? = some (a, .inr (ci, fs))) (hv : fs[j]? = some v) (hd : decode K.2.1 pc = .ok (.getfield idx, 3))
    (h : kiAW G R K ex A mc ms fin k n (pc + 3) lv (v :: st) ws) : kiAW G R K ex A mc ms fin k n pc lv (.ref a :: st) ws := by
  intro l p e s m args below meth c H locs ls C hx hE hA hP hD hS hl
  have hts := C.2.2.2.2.2.1
  exact va_get C.1 C.2.1 hts (rt_cls ci _ hc).1 C.2.2.2.2.1 C.2.2.2.2.2.2.2.1 hP q0 he hc j hj (hts _ w1) (fun _ z => z) hv hd (h l p e s m args below meth c H locs ls C hx hE hA hP hD hS hl)
/-- a field read: of what is not changed -/
theorem ki_getx {ci N idx a q0 : Nat} {CC : String} {T : u_T} {fs : List Value} {v : Value} (j : Nat) (hc : vwCl[ci]? = some (CC, T, N)) (hj : j < N) (w1 : Cond.fieldLink K.1.cls idx (T j).1 (T j).2.1 (T j).2.2.1 ∈ rt_tbl) (he : ex[q0]? = some (a, .inr (ci, fs))) (hv : fs[j]? = some v) (hd : decode K.2.1 pc = .ok (.getfield idx, 3))
    (h : kiAW G R K ex A mc ms fin k n (pc + 3) lv (v :: st) ws) : kiAW G R K ex A mc ms fin k n pc lv (.ref a :: st) ws := by
  intro l p e s m args below meth c H locs ls C hx hE hA hP hD hS hl
  have hts := C.2.2.2.2.2.1
  have hE1 : va_P (kiD G) vwCl ex H := hE.kept (fun i q hi => hS.2.1 q.1 (vx_lt hE hi) (hx i q hi))
  exact va_get C.1 C.2.1 hts (rt_cls ci _ hc).1 C.2.2.2.2.1 C.2.2.2.2.2.2.2.1 hE1 q0 he hc j hj (hts _ w1) (fun _ z => z) hv hd (h l p e s m args below meth c H locs ls C hx hE hA hP hD hS hl)
theorem ki_iast {a q0 N : Nat} {f : Nat → Int32} {i x : Int32} (ha : ws[q0]? = some (a, .inl (G.2.2.1 0, N, .inl f))) (hin : vp_in i N) (hd : decode K.2.1 pc = .ok (.iastore, 1))
    (h : kiAW G R K ex A mc ms fin k n (pc + 1) lv st (ws.set q0 (a, .inl (G.2.2.1 0, N, .inl (upd f i.toNatClampNeg x))))) : kiAW G R K ex A mc ms fin k n pc lv (.int x :: .int i :: .ref a :: st) ws := by
  intro l p e s m args below meth c H locs ls C hx hE hA hP hD hS hl
  exact va_iast C.1 C.2.1 C.2.2.2.2.2.2.2.1 hP hD hS q0 0 ha rfl hin hd (fun H1 locs1 hP1 hD1 hS1 => h l p e s m args below meth c H1 locs1 ls C hx hE hA hP1 hD1 hS1 hl)
theorem ki_astq {a q0 qk N v : Nat} {f : Nat → Option Nat} {vs : List Value} {i : Int32} (ha : ws[q0]? = some (a, .inl (G.2.2.1 4, N, .inr (.inr (.inr (.inr f)))))) (hv : ws[qk]? = some (v, .inr (4, vs))) (hin : vp_in i N) (hd : decode K.2.1 pc = .ok (.aastore, 1))
    (h : kiAW G R K ex A mc ms fin k n (pc + 1) lv st (ws.set q0 (a, .inl (G.2.2.1 4, N, .inr (.inr (.inr (.inr (va_up f i.toNatClampNeg (some v))))))))) : kiAW G R K ex A mc ms fin k n pc lv (.ref v :: .int i :: .ref a :: st) ws := by
  intro l p e s m args below meth c H locs ls C hx hE hA hP hD hS hl
  exact va_astq C.1 C.2.1 C.2.2.2.2.2.2.2.1 hP hD hS q0 4 qk 4 (r := (RX4, TX4, 5)) ha rfl hv rfl hin hd (fun H1 locs1 hP1 hD1 hS1 => h l p e s m args below meth c H1 locs1 ls C hx hE hA hP1 hD1 hS1 hl)
theorem ki_alen {a q0 : Nat} {x : vp_A} {v : Int32} (ha : ws[q0]? = some (a, .inl (G.2.2.1 4, x))) (hv : Int32.ofNat x.1 = v) (hd : decode K.2.1 pc = .ok (.arraylength, 1)) (h : kiAW G R K ex A mc ms fin k n (pc + 1) lv (.int v :: st) ws) : kiAW G R K ex A mc ms fin k n pc lv (.ref a :: st) ws := by
  intro l p e s m args below meth c H locs ls C hx hE hA hP hD hS hl
  exact va_alen C.1 C.2.1 C.2.2.2.2.2.2.2.1 hP q0 4 ha (ty := .object RX4) rfl hv hd (h l p e s m args below meth c H locs ls C hx hE hA hP hD hS hl)
theorem ki_istore_n {i : Fin 4} {j : Nat} {x : Int32} (hd : decode K.2.1 pc = .ok (.istore_n i, 1)) (hi : (i : Nat) = j) (hj : j < K.2.2.1) (hf : (j, Value.int x) :: lv.filter (fun q => !(q.1 == j) && !(q.1 + 1 == j && q.2.category == 2)) = lv') (h : kiAW G R K ex A mc ms fin k n (pc + 1) lv' st ws) : kiAW G R K ex A mc ms fin k n pc lv (.int x :: st) ws := by
  intro l p e s m args below meth c H locs ls C hx hE hA hP hD hS hl
  exact lv_istore_n C.1 C.2.1 hd hi hl hj hf (fun ls2 hl2 => h l p e s m args below meth c H locs ls2 C hx hE hA hP hD hS hl2)
theorem ki_iload_n {i : Fin 4} {j place : Nat} {x : Int32} (hd : decode K.2.1 pc = .ok (.iload_n i, 1)) (hi : (i : Nat) = j) (hv : lv[place]? = some (j, .int x)) (h : kiAW G R K ex A mc ms fin k n (pc + 1) lv (.int x :: st) ws) : kiAW G R K ex A mc ms fin k n pc lv st ws := by
  intro l p e s m args below meth c H locs ls C hx hE hA hP hD hS hl
  exact lv_iload_n C.1 C.2.1 hd hi (lv_at hl place hv) (h l p e s m args below meth c H locs ls C hx hE hA hP hD hS hl)
theorem ki_iinc {i place : Nat} {x v : Int32} {d : Int} (hd : decode K.2.1 pc = .ok (.iinc i d, 3)) (hp : lv[place]? = some (i, .int x)) (hv : x + Int32.ofInt d = v) (hi : i < K.2.2.1) (hf : (i, Value.int v) :: lv.filter (fun q => !(q.1 == i) && !(q.1 + 1 == i && q.2.category == 2)) = lv') (h : kiAW G R K ex A mc ms fin k n (pc + 3) lv' st ws) : kiAW G R K ex A mc ms fin k n pc lv st ws := by
  intro l p e s m args below meth c H locs ls C hx hE hA hP hD hS hl
  exact lv_iinc C.1 C.2.1 hd hl hp hv hi hf (fun ls2 hl2 => h l p e s m args below meth c H locs ls2 C hx hE hA hP hD hS hl2)
theorem ki_goto {off : Int} (tgt : Nat) (hd : decode K.2.1 pc = .ok (.goto off, 3)) (ht : (pc : Int) + off = (tgt : Int)) (h : kiAW G R K ex A mc ms fin k n tgt lv st ws) : kiAW G R K ex A mc ms fin k n pc lv st ws := by
  intro l p e s m args below meth c H locs ls C hx hE hA hP hD hS hl
  exact lv_goto C.1 C.2.1 hd ht (h l p e s m args below meth c H locs ls C hx hE hA hP hD hS hl)
theorem ki_ge_t {x y : Int32} {off : Int} (tgt : Nat) (hd : decode K.2.1 pc = .ok (.if_icmp .ge off, 3)) (ht : (pc : Int) + off = (tgt : Int)) (hxy : y ≤ x) (h : kiAW G R K ex A mc ms fin k n tgt lv st ws) : kiAW G R K ex A mc ms fin k n pc lv (.int y :: .int x :: st) ws := by
  intro l p e s m args below meth c H locs ls C hx hE hA hP hD hS hl
  exact lv_icmp_ge C.1 C.2.1 hd ht (fun _ => h l p e s m args below meth c H locs ls C hx hE hA hP hD hS hl) (fun z => absurd hxy z)
theorem ki_ge_f {x y : Int32} {off : Int} (tgt : Nat) (hd : decode K.2.1 pc = .ok (.if_icmp .ge off, 3)) (ht : (pc : Int) + off = (tgt : Int)) (hxy : ¬ y ≤ x) (h : kiAW G R K ex A mc ms fin k n (pc + 3) lv st ws) : kiAW G R K ex A mc ms fin k n pc lv (.int y :: .int x :: st) ws := by
  intro l p e s m args below meth c H locs ls C hx hE hA hP hD hS hl
  exact lv_icmp_ge C.1 C.2.1 hd ht (fun z => absurd z hxy) (fun _ => h l p e s m args below meth c H locs ls C hx hE hA hP hD hS hl)
theorem ki_locs (hl' : lv = lv') (h : kiAW G R K ex A mc ms fin k n pc lv' st ws) : kiAW G R K ex A mc ms fin k n pc lv st ws := hl' ▸ h
theorem ki_ret (a : Nat → Nat) (hf : fin a = ws) (hmc : k = mc ∧ n = ms) (hd : decode K.2.1 pc = .ok (.return_, 1)) : kiAW G R K ex A mc ms fin k n pc lv [] ws := by
  intro l p e s m args below meth c H locs ls C hx hE hA hP hD hS hl
  obtain ⟨rfl, rfl⟩ := hmc
  subst hf
  have hlk : meth.locks = false := C.2.2.2.2.2.2.1
  exact W.vret C.1 C.2.1 C.2.2.1 (fun t ht hW => ⟨⟨rfl, a, by rw [ht]; exact hP, hD⟩, hS.F ht⟩) hS.2.2 hd
/-- what a constructor leaves, behind its call -/
theorem ki_afterW {kc ns : Nat} {q0 : Nat} {e0 : va_E} {a' : Array Value} {fin' : (Nat → Nat) → va_W} {rest : List Value} {l : Launch} {p : Program} {e : Env} {s : State} {m : MethodId} {args : Array Value} {below : List Frame} {meth : Method} {c : Code} {H : Heap} {locs : List Loc} {ls : Array Slot} {st0 : List Value} {QQ : State → Prop}
    (hA : ∀ q : Nat, s.heap.size ≤ q → A q) (hP : va_P (kiD G) vwCl (ws ++ [(q0, e0)]) H) (hD : va_D A (ws ++ [(q0, e0)])) (hS : va_S A s.heap H locs)
    (hr : va_Run p l e R s m args below meth c H locs k n kc ns (F0 m pc ls st0) rest (kiQ G fin' (va_A [(q0, e0)] H.size) a') (va_A [(q0, e0)] H.size))
    (h : ∀ (a : Nat → Nat) (H1 : Heap) (locs1 : List Loc), va_P (kiD G) vwCl (ws ++ fin' a) H1 → va_D A (ws ++ fin' a) → va_S A s.heap H1 locs1 → W p l e R s m args below meth c H1 locs1 (k + kc) (n + ns) QQ (F0 m (pc + 3) ls rest)) :
    W p l e R s m args below meth c H locs k n QQ (F0 m pc ls st0) := by
  have hq0 : (ws ++ [(q0, e0)])[ws.length]? = some (q0, e0) := by rw [List.getElem?_append_right (Nat.le_refl _)]; simp
  have hAq : A q0 := hD.2 _ _ hq0
  have hsub : ∀ q, va_A [(q0, e0)] H.size q → A q := by
    rintro q (⟨i, e1, hi⟩ | hq)
    · have := ki_at1 hi
      cases this
      exact hAq
    · exact hA q (Nat.le_trans hS.1 hq)
  have hw : ∀ (i : Nat) (q : Nat × va_E), ws[i]? = some q → (ws ++ [(q0, e0)])[i]? = some q ∧ i < ws.length := fun i q hi => by
    have hlt := (List.getElem?_eq_some_iff.mp hi).1
    exact ⟨by rw [List.getElem?_append_left hlt]; exact hi, hlt⟩
  have hPw : va_P (kiD G) vwCl ws H := fun i q hi => hP i q (hw i q hi).1
  have hDw : va_D A ws := ⟨fun i j p1 q1 h1 h2 e1 => hD.1 i j p1 q1 (hw i p1 h1).1 (hw j q1 h2).1 e1, fun i q hi => hD.2 i q (hw i q hi).1⟩
  have hap : ∀ (i : Nat) (q : Nat × va_E), ws[i]? = some q → ¬ va_A [(q0, e0)] H.size q.1 := by
    rintro i q hi (⟨j, e1, hj⟩ | hq)
    · have h1 := ki_at1 hj
      have h2 : q.1 = q0 := congrArg Prod.fst h1
      have h3 := hD.1 i ws.length q (q0, e0) (hw i q hi).1 hq0 h2
      have := (hw i q hi).2
      omega
    · exact absurd (vx_lt hPw hi) (by omega)
  intro T hT X
  obtain ⟨v, st₀, t1, T', L9, h0, X', hL, e1, e2, ⟨⟨hv, a, hP1, hD1⟩, hz, hkp⟩, stp⟩ := hr T hT X
  cases hv
  rw [h0] at hz hkp
  have hP2 : va_P (kiD G) vwCl (ws ++ fin' a) T'.heap := by
    rw [e1]
    exact (hPw.kept (fun i q hi => hkp q.1 (vx_lt hPw hi) (hap i q hi))).app hP1
  obtain ⟨t2, a1, b1⟩ := h a T'.heap (locs ++ L9) hP2 (ki_Dapp hDw hD1 hsub hap) ⟨Nat.le_trans hS.1 (by rw [e1]; exact hz), fun q h1 h2 => by rw [e1, hkp q (Nat.lt_of_lt_of_le h1 hS.1) (fun y => h2 (hsub q y))]; exact hS.2.1 q h1 h2, fun q hq => by
      rcases List.mem_append.mp hq with h | h
      · exact hS.2.2 q h
      · exact hsub _ (hL q h)⟩ T' rfl X'
  exact ⟨t2, stp t2 a1, b1⟩
theorem ki_pre {av : List Value} {q0 : Nat} {e0 : va_E} {ex' : va_W} {s : State} {H : Heap}
    (hK : rt_KK G s) (hN : kiNe s) (hP : va_P (kiD G) vwCl (ws ++ [(q0, e0)]) H) (hD : va_D A (ws ++ [(q0, e0)])) (hex : ∀ (i : Nat) (q : Nat × va_E), ex'[i]? = some q → ∃ j : Nat, ws[j]? = some q) (U : State) (hU : U.heap = H) (hW : s.WarmedH U.vm) : kiPc G H.size av q0 e0 ex' av.toArray U := by
  have hq0 : (ws ++ [(q0, e0)])[ws.length]? = some (q0, e0) := by rw [List.getElem?_append_right (Nat.le_refl _)]; simp
  refine ⟨rfl, by rw [hU], ?_, ⟨?_, ?_⟩, rt_K_moved hW.alike hK, hN.warm hW⟩
  · rw [hU]
    intro i q hi
    have := ki_at1 hi
    subst this
    exact hP ws.length _ (by rw [List.getElem?_append_right (Nat.le_refl _)]; simp)
  · rw [hU]
    intro i q hi
    obtain ⟨j, hj⟩ := hex i q hi
    exact hP j q (by rw [List.getElem?_append_left (List.getElem?_eq_some_iff.mp hj).1]; exact hj)
  · intro i q hi e1
    obtain ⟨j, hj⟩ := hex i q hi
    have hlt := (List.getElem?_eq_some_iff.mp hj).1
    have := hD.1 j ws.length q (q0, e0) (by rw [List.getElem?_append_left hlt]; exact hj) hq0 e1
    omega
theorem ki_call {R' : Room} {K' : rt_K} {kc ns idx nn : Nat} {q0 : Nat} {e0 : va_E} {as rest : List Value} {ex' : va_W} {fin' : (Nat → Nat) → va_W} (hret : K'.2.2.2 = none) (hnm : K'.1.name = "<init>") (w1 : Cond.code K'.1 K'.2.1 K'.2.2.1 K'.2.2.2 ∈ rt_tbl) (w2 : Cond.initialized K'.1.cls ∈ rt_tbl) (w3 : Cond.methodLink K.1.cls idx K'.1 ∈ rt_tbl) (w4 : Cond.instanceMethod K'.1 ∈ rt_tbl) (hpd : K'.1.cls ≠ "java/lang/invoke/MethodHandle" ∧ K'.1.cls ≠ "java/lang/invoke/VarHandle" ∧ (parseMethodDescriptor K'.1.desc).map (fun d => d.parameters.length) = some nn)
    (hR : R'.cells = kc ∧ R'.slots = ns ∧ R'.frames + 1 ≤ R.frames ∧ 8 + (K'.2.2.1 + 11) + R'.locals ≤ R.locals) (hn : as.length = nn) (hsm : rt_sm rest ≤ 8) (hk : k + kc ≤ R.cells ∧ n + ns ≤ R.slots) (hd : decode K.2.1 pc = .ok (.invokespecial idx, 3)) (hc : kiCall G R' K' kc ns (.ref q0 :: as) q0 e0 ex' fin')
    (hex : ∀ (i : Nat) (q : Nat × va_E), ex'[i]? = some q → ∃ j : Nat, ws[j]? = some q) (h : ∀ a : Nat → Nat, kiAW G R K ex A mc ms fin (k + kc) (n + ns) (pc + 3) lv rest (ws ++ fin' a)) : kiAW G R K ex A mc ms fin k n pc lv (as.reverse ++ .ref q0 :: rest) (ws ++ [(q0, e0)]) := by
  intro l p e s m args below meth c H locs ls C hx hE hA hP hD hS hl
  have hts := C.2.2.2.2.2.1
  obtain ⟨K1, K2, K3, K4⟩ := K'
  have hret : K4 = none := hret
  subst hret
  have cw := cwI (R := R) (s := s) (args := args) (own := K.1.cls) (index := idx) (y := K1) (bytes := K2) (maxL := K3) (ws := rt_ws (K1, K2, K3, none)) (ws' := rt_tbl) (rm := R') nn hts (rt_goodIn w1) rfl hR.1 hR.2.1 (hts _ w2) (hts _ w3) (hts _ w4) hnm hpd ⟨hR.2.2.1, hR.2.2.2⟩
  refine ki_afterW hA hP hD hS (va_runI (As := as) (rest := rest) ⟨C.1, C.2.1, C.2.2.2.1, C.2.2.2.2.1, hts⟩ (hc l H.size) cw ⟨ki_blind, fun U hU hW => ki_pre C.2.2.2.2.2.2.2.1 C.2.2.2.2.2.2.2.2.2 hP hD hex U hU hW⟩ rfl hn hl.1 rfl (lv_room hsm) hd hk) (fun a H1 locs1 hP1 hD1 hS1 => h a l p e s m args below meth c H1 locs1 ls C hx hE hA hP1 hD1 hS1 hl)
/-- the same, of a constructor that only nest mates see -/
theorem ki_callN {R' : Room} {K' : rt_K} {kc ns idx nn : Nat} {host : String} {q0 : Nat} {e0 : va_E} {as rest : List Value} {ex' : va_W} {fin' : (Nat → Nat) → va_W} (hret : K'.2.2.2 = none) (hnm : K'.1.name = "<init>") (w1 : Cond.code K'.1 K'.2.1 K'.2.2.1 K'.2.2.2 ∈ rt_tbl) (w2 : Cond.initialized K'.1.cls ∈ rt_tbl) (w3 : (K.1.cls, idx, K'.1, host) ∈ kiNest) (w4 : Cond.instanceMethod K'.1 ∈ rt_tbl) (hpd : K'.1.cls ≠ "java/lang/invoke/MethodHandle" ∧ K'.1.cls ≠ "java/lang/invoke/VarHandle" ∧ (parseMethodDescriptor K'.1.desc).map (fun d => d.parameters.length) = some nn)
    (hR : R'.cells = kc ∧ R'.slots = ns ∧ R'.frames + 1 ≤ R.frames ∧ 8 + (K'.2.2.1 + 11) + R'.locals ≤ R.locals) (hn : as.length = nn) (hsm : rt_sm rest ≤ 8) (hk : k + kc ≤ R.cells ∧ n + ns ≤ R.slots) (hd : decode K.2.1 pc = .ok (.invokespecial idx, 3)) (hc : kiCall G R' K' kc ns (.ref q0 :: as) q0 e0 ex' fin')
    (hex : ∀ (i : Nat) (q : Nat × va_E), ex'[i]? = some q → ∃ j : Nat, ws[j]? = some q) (h : ∀ a : Nat → Nat, kiAW G R K ex A mc ms fin (k + kc) (n + ns) (pc + 3) lv rest (ws ++ fin' a)) : kiAW G R K ex A mc ms fin k n pc lv (as.reverse ++ .ref q0 :: rest) (ws ++ [(q0, e0)]) := by
  intro l p e s m args below meth c H locs ls C hx hE hA hP hD hS hl
  have hts := C.2.2.2.2.2.1
  obtain ⟨K1, K2, K3, K4⟩ := K'
  have hret : K4 = none := hret
  subst hret
  have cw := va_cnB (R := R) (s := s) (args := args) (own := K.1.cls) (host := host) (index := idx) (y := K1) (bytes := K2) (maxL := K3) (ret := none) (ws := rt_ws (K1, K2, K3, none)) (ws' := rt_tbl) (rm := R') nn hts (rt_goodIn w1) rfl hR.1 hR.2.1 (C.2.2.2.2.2.2.2.2.2.1 _ w3) (hts _ w2) hpd ⟨hR.2.2.1, hR.2.2.2⟩
  refine ki_afterW hA hP hD hS (va_runIN (As := as) (rest := rest) ⟨C.1, C.2.1, C.2.2.2.1, C.2.2.2.2.1, hts⟩ (hc l H.size) ⟨cw, hnm, hts _ w4⟩ ⟨ki_blind, fun U hU hW => ki_pre C.2.2.2.2.2.2.2.1 C.2.2.2.2.2.2.2.2.2 hP hD hex U hU hW⟩ rfl hn hl.1 rfl (lv_room hsm) hd hk) (fun a H1 locs1 hP1 hD1 hS1 => h a l p e s m args below meth c H1 locs1 ls C hx hE hA hP1 hD1 hS1 hl)
theorem ki_ws (ws' : va_W) (hw : ws = ws') (h : kiAW G R K ex A mc ms fin k n pc lv st ws') : kiAW G R K ex A mc ms fin k n pc lv st ws := hw ▸ h
end
