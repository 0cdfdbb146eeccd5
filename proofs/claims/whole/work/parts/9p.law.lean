/-! THE CLAIM OUT OF ONE WALK OF THE LAW'S BODY. Your part is whole_start (and what it stands on); all else here is the same for every law, but numbers. -/
def R_law : String := "RoadsWithTidesLaw"
def lw_P (b : Addr) (xs : List Int32) (args : Array Value) (s : State) : Prop := args = #[.ref b] ∧ s.IntsAt b xs ∧ xs.length ≤ 2560 ∧ (Jvm.Cond.and given_1 narrow_1).before args s = true
def lw_Q (_ : Array Value) (s : State) (o : Outcome) (t : State) : Prop := o = .returned (some (.int 1)) ∧ Framed s o t [] 601024 7293034
def lw_Z (below : List Frame) (a : Array Value) (s : State) : State → Prop := fun t => ∃ o, t.status = .running ∧ Ended t below o ∧ lw_Q a s o t
/-- the law's own end, with 1 on the stack, nothing written that was there before, its room as the claim has it -/
theorem lw_ret {p : Program} {l : Launch} {e : Env} {s : State} {m : MethodId} {below : List Frame} {meth : Method} {c : Code} {b : Nat} (hx : p.tables.exec = Jvm.exec) (hb : c.code = code) (hr : meth.sig.returnType = ret) (hlocks : meth.locks = false) {pc : Nat} {H : Heap} {ls : Array Slot} (hdg : decode code pc = .ok (.ireturn, 1)) : W p l e room_1 s m #[Value.ref b] below meth c H [] 601024 7293034 (lw_Z below #[Value.ref b] s) (F0 m pc ls [.int 1]) := by
  intro T hT X
  obtain ⟨fs, hret, hrun, hended, hW, hframe⟩ := X.leave (v := some (.int 1)) (hlocks := hlocks) (fun h => by rw [hr] at h; cases h)
  have hmeth' : T.vm.method? m = some meth := X.method'
  refine ⟨T.setFrames fs, ?_, .returned (some (.int 1)), hrun, hended, rfl, ⟨_, rfl⟩, hW, hframe⟩
  jvm_step X.here [X.here.top, hx, hb, hdg, hmeth', hr, ret, narrow_b1]
  (try refine ⟨rfl, ?_⟩); (try refine ⟨rfl, ?_⟩)
  first | (intro acts; rw [hret _ acts rfl rfl rfl]) | rw [hret _ _ rfl rfl rfl]
  exact Steps.refl _
/-- what holds at the law's entry: the machine, the code, the tables' words (any of lw_tbl by 'hts w (by decide +kernel)'), the script of L ints xs at the cell b, what the Statement gives of the start (any of its parts by flat_of_before) -/
def lw_At (p : Program) (s : State) (m : MethodId) (meth : Method) (c : Code) (b L : Nat) (xs : Nat → Int32) : Prop :=
  p.tables.exec = Jvm.exec ∧ c.code = code ∧ meth.sig.returnType = ret ∧ c.maxLocals = 7 ∧ s.vm.findClass R_law = some m.cls ∧ (∀ w ∈ lw_tbl, w.before #[Value.ref b] s = true) ∧ va_X b L xs s s.heap ∧ b < s.heap.size ∧ meth.locks = false ∧ (Jvm.Cond.and given_1 narrow_1).before #[Value.ref b] s = true

/-! THE LAW'S BODY over the picture -/
section
variable {G : rt_G} {p : Program} {l : Launch} {e : Env} {s : State} {m : MethodId} {below : List Frame} {meth : Method} {c : Code} {b LL : Nat} {xs : Nat → Int32}
/-- what stays: the machine, the tables, the picture's addresses -/
def LC (G : rt_G) (p : Program) (s : State) (m : MethodId) (meth : Method) (c : Code) (b LL : Nat) (xs : Nat → Int32) : Prop :=
  lw_At p s m meth c b LL xs ∧ LL ≤ 2560 ∧ rt_KK G s ∧ rt_J G ∧ ∀ q, rt_A G q → s.heap.size ≤ q
/-- the law at pc, in the picture -/
def LW (G : rt_G) (p : Program) (l : Launch) (e : Env) (s : State) (m : MethodId) (below : List Frame) (meth : Method) (c : Code) (b : Nat) (k n : Nat) (pc : Nat) (lv : List (Nat × Value)) (st : List Value) (I : rt_I) (L : rt_L) (r : Nat) : Prop :=
  ∀ (H : Heap) (locs : List Loc) (ls : Array Slot), rt_P G I L r H → va_S (fun q : Nat => s.heap.size ≤ q) s.heap H locs → lv_has ls 7 lv →
    W p l e room_1 s m #[Value.ref b] below meth c H locs k n (lw_Z below #[Value.ref b] s) (F0 m pc ls (st.map (rt_v G.2.2.2)))
def lv5 (G : rt_G) (b i : Nat) : List (Nat × Value) := [(0, .ref b), (1, .ref (G.2.2.2 0)), (2, .ref (G.2.2.2 108)), (3, .ref (G.2.2.2 135)), (4, .int (nI i))]
theorem lw_after {k n pc : Nat} {t : List Value} {K' : rt_K} {Q' : rt_Q} {a' : Array Value} {H : Heap} {locs : List Loc} {ls : Array Slot} {QQ : State → Prop} {st0 : List Value}
    (hA : ∀ q, rt_A G q → s.heap.size ≤ q) (hr : va_Run p l e room_1 s m #[Value.ref b] below meth c H locs k n 0 0 (F0 m pc ls st0) (t.map (rt_v G.2.2.2)) (rt_Qc G K' Q' a') (rt_A G)) (hS : va_S (fun q : Nat => s.heap.size ≤ q) s.heap H locs)
    (hk : ∀ v I' L' r' H1 locs1, Q' v I' L' r' → rt_P G I' L' r' H1 → va_S (fun q : Nat => s.heap.size ≤ q) s.heap H1 locs1 → W p l e room_1 s m #[Value.ref b] below meth c H1 locs1 k n QQ (F0 m (pc + 3) ls ((rt_pu K' v t).map (rt_v G.2.2.2)))) : W p l e room_1 s m #[Value.ref b] below meth c H locs k n QQ (F0 m pc ls st0) := by
  intro T hT X
  obtain ⟨v, st₀, t1, T', L9, h0, X', hL, e1, e2, ⟨⟨v1, I', L', r', hv, hq, hP'⟩, hz, hkp⟩, st⟩ := hr T hT X
  rw [h0] at hz hkp
  have hv1 : v = rt_rv K' v1 := by cases hv; rfl
  have hw : v.toList ++ t.map (rt_v G.2.2.2) = (rt_pu K' v1 t).map (rt_v G.2.2.2) := by
    rw [hv1]
    unfold rt_rv rt_pu
    cases K'.2.2.2 <;> rfl
  obtain ⟨t2, a1, b1⟩ := hk v1 I' L' r' T'.heap (locs ++ L9) hq (by rw [e1]; exact hP') ⟨Nat.le_trans hS.1 (by rw [e1]; exact hz), fun q h1 h2 => by rw [e1, hkp q (Nat.lt_of_lt_of_le h1 hS.1) (fun y => h2 (hA q y))]; exact hS.2.1 q h1 h2, fun q hq => by
      rcases List.mem_append.mp hq with h | h
      · exact hS.2.2 q h
      · exact hA _ (hL q h)⟩ T' rfl X'
  refine ⟨t2, st t2 ?_, b1⟩
  rw [hw]
  exact a1
theorem lw_ts (C : LC G p s m meth c b LL xs) : ∀ w ∈ rt_tbl, w.before #[Value.ref b] s = true := fun w hw => C.1.2.2.2.2.2.1 w (rt_sub w hw)
theorem lw_cb {K' : rt_K} {n x d : Nat} {ci : Option Nat} (C : LC G p s m meth c b LL xs) (hd : d ≤ 1000) (hw : Cond.methodLink R_law x K'.1 ∈ rt_tbl) (hok : rt_okK K' n ci) :
    CallB room_1 s #[Value.ref b] R_law x K'.1 K'.2.1 K'.2.2.1 K'.2.2.2 (rt_ws K') (rt_rm d) 0 0 n := by
  obtain ⟨h1, h2, h3, h4, -⟩ := hok
  exact callB_of n (lw_ts C) (rt_goodIn h1) rfl rfl rfl (lw_ts C _ h2) (lw_ts C _ hw) h3 ⟨by show d + 1 ≤ 2048; omega, by show 8 + (K'.2.2.1 + 11) + 80 * d ≤ 84000; omega⟩
variable {k n pc : Nat} {lv : List (Nat × Value)} {st : List Value} {I : rt_I} {L : rt_L} {r : Nat}
theorem LW.callv {K' : rt_K} {nn x d q ci : Nat} {as t : List Value} {Q' : rt_Q} (C : LC G p s m meth c b LL xs) (hkn : k ≤ 601024 ∧ n ≤ 7293034) (hd' : d ≤ 1000) (hw : Cond.methodLink R_law x K'.1 ∈ rt_tbl) (hok : rt_okK K' nn (some ci)) (hn : as.length = nn) (ho : rt_isO q ci 0 = true) (hsm : rt_sm t ≤ 8) (hd : decode code pc = .ok (.invokevirtual x, 3))
    (hc : rt_Call G d K' (.ref q :: as) I L r Q') (h : ∀ v I' L' r', Q' v I' L' r' → LW G p l e s m below meth c b k n (pc + 3) lv (rt_pu K' v t) I' L' r') : LW G p l e s m below meth c b k n pc lv (as.reverse ++ .ref q :: t) I L r := by
  intro H locs ls hP hS hl
  obtain ⟨a1, a2, a3⟩ := rt_isO_inv ho
  have he := rt_W_at (G := G) (I := I) (L := L) (r := r) a1
  rw [rt_en_o a2] at he
  obtain ⟨h1, h2, h3, h4, h5, h6, q', h7, h8⟩ := id hok
  have hK := C.2.2.1
  have A0 := C.1
  have hrun := va_runV (l := l) (R := room_1) (below := below) (meth := meth) (H := H) (locs := locs) (cells := k) (slots := n) (e := e) (C := K'.1.cls) (b := G.2.2.2 q) (As := as.map (rt_v G.2.2.2)) (rest := t.map (rt_v G.2.2.2)) (g := F0 m pc ls ((as.reverse ++ .ref q :: t).map (rt_v G.2.2.2))) ⟨A0.1, A0.2.1, A0.2.2.2.1, A0.2.2.2.2.1, lw_ts C⟩ (hc l) ⟨lw_cb C hd' hw hok, lw_ts C _ h5, lw_ts C _ h6⟩
    ⟨rt_blind, by rw [← h8]; exact va_recv hK hP h7 he, fun U hU hW => ⟨rfl, by rw [hU]; exact hP, rt_K_moved hW.alike hK, C.2.2.2.1⟩⟩ rfl (by rw [List.length_map]; exact hn) hl.1 (by simp [rt_v]) (lv_room (by rw [rt_sm_map]; exact hsm)) hd ⟨hkn.1, hkn.2⟩
  exact lw_after C.2.2.2.2 hrun hS (fun v I' L' r' H1 locs1 hq hP1 hS1 => h v I' L' r' hq H1 locs1 ls hP1 hS1 hl)
/-- a reference out of a local -/
theorem LW.ref {i : Fin 4} {q place : Nat} {nl : Nat} (C : LC G p s m meth c b LL xs) (hd : decode code pc = .ok (.aload_n i, 1)) (hi : (i : Nat) = nl) (hv : lv[place]? = some (nl, .ref (G.2.2.2 q))) (h : LW G p l e s m below meth c b k n (pc + 1) lv (.ref q :: st) I L r) : LW G p l e s m below meth c b k n pc lv st I L r := by
  intro H locs ls hP hS hl
  exact lv_aload_n C.1.1 C.1.2.1 hd hi (lv_at hl place hv) (h H locs ls hP hS hl)
/-- an int of the script -/
theorem LW.arg {i j : Nat} {kk : Int} (C : LC G p s m meth c b LL xs) (h0 : lv[0]? = some (0, .ref b)) (h4 : lv[4]? = some (4, .int (nI i))) (hij : i + j < LL) (hk : Int32.ofInt kk = nI j)
    (d0 : decode code pc = .ok (.aload_n 0, 1)) (d1 : decode code (pc + 1) = .ok (.iload 4, 2)) (d2 : decode code (pc + 1 + 2) = .ok (.iconst kk, 1)) (d3 : decode code (pc + 1 + 2 + 1) = .ok (.iadd, 1)) (d4 : decode code (pc + 1 + 2 + 1 + 1) = .ok (.iaload, 1))
    (h : LW G p l e s m below meth c b k n (pc + 1 + 2 + 1 + 1 + 1) lv (.int (xs (i + j)) :: st) I L r) : LW G p l e s m below meth c b k n pc lv st I L r := by
  intro H locs ls hP hS hl
  have hLL := C.2.1
  obtain ⟨hx, hb, hr, hml, hown, hts, hX, hbl, hlocks, hgv⟩ := C.1
  have hbA : ¬ (fun q : Nat => s.heap.size ≤ q) b := Nat.not_le.mpr hbl
  refine lv_aload_n hx hb d0 rfl (lv_at hl 0 h0) (lv_iload hx hb d1 (lv_at hl 4 h4) (lv_iconst hx hb d2 hk (lv_iadd hx hb d3 ?_)))
  rw [nI_add]
  refine va_sld hx hb hX hbl hbA hS (vp_in_nI hij (by omega)) d4 ?_
  rw [nI_clamp (by omega)]
  exact h H locs ls hP hS hl
theorem LW.eq {x : Int32} {off : Int} {tgt : Nat} (C : LC G p s m meth c b LL xs) (hd : decode code pc = .ok (.if_icmp .eq off, 3)) (ht : (pc : Int) + off = (tgt : Int)) (h : LW G p l e s m below meth c b k n tgt lv st I L r) : LW G p l e s m below meth c b k n pc lv (.int x :: .int x :: st) I L r := by
  intro H locs ls hP hS hl
  exact lv_icmp_eq C.1.1 C.1.2.1 hd ht (fun _ => h H locs ls hP hS hl) (fun z => absurd rfl z)
theorem LW.goto {off : Int} {tgt : Nat} (C : LC G p s m meth c b LL xs) (hd : decode code pc = .ok (.goto off, 3)) (ht : (pc : Int) + off = (tgt : Int)) (h : LW G p l e s m below meth c b k n tgt lv st I L r) : LW G p l e s m below meth c b k n pc lv st I L r := by
  intro H locs ls hP hS hl
  exact lv_goto C.1.1 C.1.2.1 hd ht (h H locs ls hP hS hl)
theorem LW.widen {k' n' : Nat} (hk : k ≤ k') (hn : n ≤ n') (h : LW G p l e s m below meth c b k' n' pc lv st I L r) : LW G p l e s m below meth c b k n pc lv st I L r := by
  intro H locs ls hP hS hl
  exact W.widen hk hn (h H locs ls hP hS hl)
/-- after the call: the next five -/
def LN (G : rt_G) (p : Program) (l : Launch) (e : Env) (s : State) (m : MethodId) (below : List Frame) (meth : Method) (c : Code) (b : Nat) (k n B i : Nat) : Prop :=
  ∀ (I : rt_I) (L : rt_L) (r : Nat), INV (B + 7000) I → LW G p l e s m below meth c b k n 1649 (lv5 G b i) [] I L r
end
