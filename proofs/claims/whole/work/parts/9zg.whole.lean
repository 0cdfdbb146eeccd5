/-! THE LAW, from its entry -/
theorem st_arr {s : State} {args : Array Value} {ty : FieldType} (h : (Cond.arrayClass ty).before args s = true) (hra : ∀ (U : State) (cA : ClassId), U.vm.findClass ("[" ++ ty.toString) = some cA → va_RA U cA ty) : ∃ cA, ArrOfT s cA ty ∧ va_RA s cA ty := by
  obtain ⟨cA, kA, comp, h1, h2, h3⟩ := Cond.arrayClass_spec h
  exact ⟨cA, fun N z => ⟨(fun k h => by cases h), kA, h2, comp, h3⟩, hra s cA h1⟩
theorem st_arrq {s : State} (h : va_AO RX4 s) : ∃ cA, ArrOfT s cA (.object RX4) ∧ va_RA s cA (.object RX4) := by
  obtain ⟨comp, cA, kA, h1, -, h3, h4, h5⟩ := Cond.arrayOver_spec (va_AO.use h (A := #[]))
  exact ⟨cA, fun N z => ⟨(fun k h => by cases h), kA, h3, comp, h4⟩, kA, comp, h3, h4, h1, h5⟩
theorem st_nest : ∀ w ∈ kiNest, Cond.methodLinkNest w.1 w.2.1 w.2.2.1 w.2.2.2 ∈ lw_tbl := by decide +kernel
theorem st_kn {s : State} {args : Array Value} (hts : ∀ w ∈ rt_tbl, w.before args s = true) : ∃ (dC : Nat → ClassId) (dI : Nat → Nat → Nat), ∀ (k : Nat) (q : vw_C), vwCl[k]? = some q → u_Kn s q.1 q.2.1 q.2.2 (dC k) (dI k) := by
  have h : ∀ k : Nat, ∃ (cC : ClassId) (iS : Nat → Nat), ∀ q : vw_C, vwCl[k]? = some q → u_Kn s q.1 q.2.1 q.2.2 cC iS := by
    intro k
    by_cases hk : k < 13
    · have hq : ∃ q, vwCl[k]? = some q := ⟨vwCl[k], List.getElem?_eq_getElem hk⟩
      obtain ⟨q, hq⟩ := hq
      have hi : ∃ n, Cond.instantiable q.1 n ∈ rt_tbl := by
        match k, hk, hq with
        | 0, _, hq => cases hq; exact ⟨5, rt_at 368 (by decide +kernel) (by decide +kernel)⟩
        | 1, _, hq => cases hq; exact ⟨6, rt_at 337 (by decide +kernel) (by decide +kernel)⟩
        | 2, _, hq => cases hq; exact ⟨9, rt_at 197 (by decide +kernel) (by decide +kernel)⟩
        | 3, _, hq => cases hq; exact ⟨7, rt_at 437 (by decide +kernel) (by decide +kernel)⟩
        | 4, _, hq => cases hq; exact ⟨5, rt_at 203 (by decide +kernel) (by decide +kernel)⟩
        | 5, _, hq => cases hq; exact ⟨2, rt_at 471 (by decide +kernel) (by decide +kernel)⟩
        | 6, _, hq => cases hq; exact ⟨10, rt_at 160 (by decide +kernel) (by decide +kernel)⟩
        | 7, _, hq => cases hq; exact ⟨4, rt_at 112 (by decide +kernel) (by decide +kernel)⟩
        | 8, _, hq => cases hq; exact ⟨4, rt_at 140 (by decide +kernel) (by decide +kernel)⟩
        | 9, _, hq => cases hq; exact ⟨12, rt_at 283 (by decide +kernel) (by decide +kernel)⟩
        | 10, _, hq => cases hq; exact ⟨12, rt_at 391 (by decide +kernel) (by decide +kernel)⟩
        | 11, _, hq => cases hq; exact ⟨10, rt_at 104 (by decide +kernel) (by decide +kernel)⟩
        | 12, _, hq => cases hq; exact ⟨56, rt_at 1266 (by decide +kernel) (by decide +kernel)⟩
        | k + 13, h, _ => exact absurd h (by omega)
      obtain ⟨n, hn⟩ := hi
      obtain ⟨cC, iS, h1⟩ := u_known hts (rt_cls k q hq).1 (hts _ hn)
      exact ⟨cC, iS, fun q' hq' => by cases Option.some.inj (hq.symm.trans hq'); exact h1⟩
    · exact ⟨0, fun _ => 0, fun q hq => absurd (List.getElem?_eq_some_iff.mp hq).1 hk⟩
  exact ⟨fun k => (h k).choose, fun k => (h k).choose_spec.choose, fun k q hq => (h k).choose_spec.choose_spec q hq⟩
theorem d_law_0 : rt_dec code 0 [(.new 8, 3), (.dup, 1), (.invokespecial 25, 3), (.astore_n 1, 1), (.new 26, 3), (.dup, 1), (.invokespecial 28, 3), (.astore_n 2, 1), (.iconst 1, 1), (.newarray .long, 2), (.astore_n 3, 1), (.iconst 0, 1), (.istore 4, 2)] := rt_dec_of (by decide +kernel)
set_option maxHeartbeats 4000000 in
set_option maxRecDepth 100000 in
/-- from the entry, for every script of at most 2560 ints, the law comes to its end with true -/
theorem whole_start {p : Program} {e : Env} {s : State} {m : MethodId} {below : List Frame} {meth : Method} {c : Code} (l : Launch) (hflags : l.flags = flags0) {b L : Nat} {xs : Nat → Int32} (hL : L ≤ 2560) (C0 : lw_At p s m meth c b L xs) : W p l e room_1 s m #[Value.ref b] below meth c s.heap [] 0 0 (lw_Z below #[Value.ref b] s) (entryFrame m ([Value.ref b] : List Value).toArray 7) := by
  obtain ⟨hx, hb, hr, hml, hown, hlt, hX, hbl, hlocks, hgv⟩ := id C0
  have hts : ∀ w ∈ rt_tbl, w.before #[Value.ref b] s = true := fun w hw => hlt w (rt_sub w hw)
  have hl0 : l.stackTraces = false := by
    unfold Launch.stackTraces
    rw [hflags]
    decide +kernel
  have hA : ∀ q : Nat, s.heap.size ≤ q → (fun q : Nat => s.heap.size ≤ q) q := fun _ h => h
  have hN : kiNe s := ⟨fun w hw => va_Nw.of rfl (hlt _ (st_nest w hw)), va_AO.of (hlt _ (List.mem_of_getElem? (i := 343) (by decide +kernel)))⟩
  obtain ⟨dC, dI, hKc⟩ := st_kn hts
  obtain ⟨a0, i0, j0⟩ := st_arr (ty := .int) (hts _ (rt_at 138 (by decide +kernel) (by decide +kernel))) (fun _ _ h => h)
  obtain ⟨a1, i1, j1⟩ := st_arr (ty := .byte) (hts _ (rt_at 1440 (by decide +kernel) (by decide +kernel))) (fun _ _ h => h)
  obtain ⟨a2, i2, j2⟩ := st_arr (ty := .boolean) (hts _ (rt_at 366 (by decide +kernel) (by decide +kernel))) (fun _ _ h => h)
  obtain ⟨a3, i3, j3⟩ := st_arr (ty := .long) (hts _ (rt_at 469 (by decide +kernel) (by decide +kernel))) (fun _ _ h => h)
  obtain ⟨a4, i4, j4⟩ := st_arrq hN.2
  obtain ⟨cA, hcA⟩ : ∃ cA : Nat → ClassId, cA = fun k => match k with | 0 => a0 | 1 => a1 | 2 => a2 | 3 => a3 | _ => a4 := ⟨_, rfl⟩
  have hKK : ∀ ad : Nat → Nat, rt_KK (dC, dI, cA, ad) s := by
    intro ad
    refine ⟨hKc, fun k q hq => ?_⟩
    subst hcA
    match k, hq with
    | 0, hq => cases hq; exact ⟨i0, j0⟩
    | 1, hq => cases hq; exact ⟨i1, j1⟩
    | 2, hq => cases hq; exact ⟨i2, j2⟩
    | 3, hq => cases hq; exact ⟨i3, j3⟩
    | 4, hq => cases hq; exact ⟨i4, j4⟩
    | k + 5, hq => simp [rt_ty] at hq
  obtain ⟨G, hG⟩ : ∃ G : rt_G, G = (dC, dI, cA, fun _ => 0) := ⟨_, rfl⟩
  have hK : rt_KK G s := by rw [hG]; exact hKK _
  obtain ⟨e0, e1, e2, e3, e4, e5, e6, e7, e8, e9, e10, e11, e12, -⟩ := d_law_0
  have hS : va_S (fun q : Nat => s.heap.size ≤ q) s.heap s.heap [] := va_S.rf
  have hP : va_P (kiD G) vwCl [] s.heap := fun k q h => by simp at h
  have hD : va_D (fun q : Nat => s.heap.size ≤ q) [] := ⟨fun i j p q h => by simp at h, fun k q h => by simp at h⟩
  have hl := lv_entry ([.ref b]) (n := 7) (Nat.le_of_ble_eq_true rfl)
  rw [lg_entry_eq]
  generalize (lg_sl ([.ref b]) ++ List.replicate (7 - (lg_sl ([.ref b])).length) Slot.unset).toArray = ls at hl ⊢
  have hl : lv_has ls 7 [(0, .ref b)] := hl
  refine va_new (ci := 11) (fs := [.null, .null, .null, .null, .null, .null, .null, .null, .null, .null]) (C := RX11) (T := TX11) (N := 10) hx hb hts rt_uX11 tyX11 tyX11_ok hown (hts _ (rt_at 103 (by decide +kernel) (by decide +kernel))) (hts _ (rt_at 104 (by decide +kernel) (by decide +kernel))) (hts _ (rt_at 80 (by decide +kernel) (by decide +kernel))) hK hP hD hS hA rfl (fun j hj => match j, hj with | 0, _ => rfl | 1, _ => rfl | 2, _ => rfl | 3, _ => rfl | 4, _ => rfl | 5, _ => rfl | 6, _ => rfl | 7, _ => rfl | 8, _ => rfl | 9, _ => rfl | j + 10, h => absurd h (by omega)) (Nat.le_of_ble_eq_true rfl) (Nat.le_of_ble_eq_true rfl) e0 (fun q0 H hP hD hS => ?_)
  refine lv_dup hx hb e1 rfl ?_
  refine ki_afterW (ws := []) (kc := 107) (ns := 4845) (fin' := kW11 G q0) (rest := [.ref q0]) hA hP hD hS (va_runI (As := []) (rest := [.ref q0]) ⟨hx, hb, hml, hown, hts⟩ (cI11 (G := G) (h0 := q0) l H.size) (cwI 0 hts (rt_goodIn (rt_at 107 (by decide +kernel) (by decide +kernel))) rfl rfl rfl (hts _ (rt_at 80 (by decide +kernel) (by decide +kernel))) (hts _ (rt_at 105 (by decide +kernel) (by decide +kernel))) (hts _ (rt_at 106 (by decide +kernel) (by decide +kernel))) rfl (by decide +kernel) ⟨Nat.le_of_ble_eq_true rfl, Nat.le_of_ble_eq_true rfl⟩) ⟨ki_blind, fun U hU hW => ki_pre (ws := []) hK hN hP hD (fun i q hi => by simp at hi) U hU hW⟩ rfl rfl hl.1 rfl (lv_room (Nat.le_of_ble_eq_true rfl)) e2 ⟨Nat.le_of_ble_eq_true rfl, Nat.le_of_ble_eq_true rfl⟩) (fun a H locs hP hD hS => ?_)
  refine lv_astore_n (lv' := [(1, .ref q0), (0, .ref b)]) hx hb e3 rfl hl (by decide) rfl (fun ls hl => ?_)
  refine va_new (ci := 12) (fs := [.null, .int 0, .null, .int 0, .null, .null, .int 0, .int 0, .null, .int 0, .null, .int 0, .null, .int 0, .int 0, .null, .int 0, .int 0, .int 0, .int 0, .null, .null, .int 0, .int 0, .null, .null, .null, .int 0, .int 0, .null, .null, .int 0, .null, .int 0, .int 0, .int 0, .int 0, .int 0, .null, .null, .null, .null, .int 0, .null, .int 0, .int 0, .int 0, .null, .int 0, .null, .int 0, .null, .int 0, .null, .null, .null]) (C := RX12) (T := TX12) (N := 56) hx hb hts rt_uX12 tyX12 tyX12_ok hown (hts _ (rt_at 1265 (by decide +kernel) (by decide +kernel))) (hts _ (rt_at 1266 (by decide +kernel) (by decide +kernel))) (hts _ (rt_at 92 (by decide +kernel) (by decide +kernel))) hK hP hD hS hA rfl (fun j hj => match j, hj with | 0, _ => rfl | 1, _ => rfl | 2, _ => rfl | 3, _ => rfl | 4, _ => rfl | 5, _ => rfl | 6, _ => rfl | 7, _ => rfl | 8, _ => rfl | 9, _ => rfl | 10, _ => rfl | 11, _ => rfl | 12, _ => rfl | 13, _ => rfl | 14, _ => rfl | 15, _ => rfl | 16, _ => rfl | 17, _ => rfl | 18, _ => rfl | 19, _ => rfl | 20, _ => rfl | 21, _ => rfl | 22, _ => rfl | 23, _ => rfl | 24, _ => rfl | 25, _ => rfl | 26, _ => rfl | 27, _ => rfl | 28, _ => rfl | 29, _ => rfl | 30, _ => rfl | 31, _ => rfl | 32, _ => rfl | 33, _ => rfl | 34, _ => rfl | 35, _ => rfl | 36, _ => rfl | 37, _ => rfl | 38, _ => rfl | 39, _ => rfl | 40, _ => rfl | 41, _ => rfl | 42, _ => rfl | 43, _ => rfl | 44, _ => rfl | 45, _ => rfl | 46, _ => rfl | 47, _ => rfl | 48, _ => rfl | 49, _ => rfl | 50, _ => rfl | 51, _ => rfl | 52, _ => rfl | 53, _ => rfl | 54, _ => rfl | 55, _ => rfl | j + 56, h => absurd h (by omega)) (Nat.le_of_ble_eq_true rfl) (Nat.le_of_ble_eq_true rfl) e4 (fun q1 H hP hD hS => ?_)
  refine lv_dup hx hb e5 rfl ?_
  refine ki_afterW (ws := [] ++ kW11 G q0 a) (kc := 26) (ns := 2672) (fin' := kW12 G q1) (rest := [.ref q1]) hA hP hD hS (va_runI (As := []) (rest := [.ref q1]) ⟨hx, hb, hml, hown, hts⟩ (cI12 (G := G) (h0 := q1) l H.size) (cwI 0 hts (rt_goodIn (rt_at 1269 (by decide +kernel) (by decide +kernel))) rfl rfl rfl (hts _ (rt_at 92 (by decide +kernel) (by decide +kernel))) (hts _ (rt_at 1267 (by decide +kernel) (by decide +kernel))) (hts _ (rt_at 1268 (by decide +kernel) (by decide +kernel))) rfl (by decide +kernel) ⟨Nat.le_of_ble_eq_true rfl, Nat.le_of_ble_eq_true rfl⟩) ⟨ki_blind, fun U hU hW => ki_pre (ws := [] ++ kW11 G q0 a) hK hN hP hD (fun i q hi => by simp at hi) U hU hW⟩ rfl rfl hl.1 rfl (lv_room (Nat.le_of_ble_eq_true rfl)) e6 ⟨Nat.le_of_ble_eq_true rfl, Nat.le_of_ble_eq_true rfl⟩) (fun a' H locs hP hD hS => ?_)
  refine lv_astore_n (lv' := [(2, .ref q1), (1, .ref q0), (0, .ref b)]) hx hb e7 rfl hl (by decide) rfl (fun ls hl => ?_)
  refine lv_iconst (v := 1) hx hb e8 (by decide) ?_
  refine va_newa (ty := .long) (a0 := (1, .inr (.inl (fun _ => 0)))) (N' := 1) hx hb (hts _ (rt_at 469 (by decide +kernel) (by decide +kernel))) rfl hK hP hD hS hA (fun _ => rfl) (by decide) (by decide) (by decide) (Nat.le_of_ble_eq_true rfl) (Nat.le_of_ble_eq_true rfl) e9 (fun qo c9 H hK1 hP hD hS => ?_)
  have f1 : s.vm.findClass ("[" ++ FieldType.long.toString) = some c9 := (hK1.2 (rt_ty G).length (c9, .long) (by rw [List.getElem?_append_right (Nat.le_refl _)]; simp)).2
  have f2 : s.vm.findClass ("[" ++ FieldType.long.toString) = some (G.2.2.1 3) := (hK.2 3 (G.2.2.1 3, .long) rfl).2
  have f3 : c9 = G.2.2.1 3 := Option.some.inj (f1.symm.trans f2)
  subst f3
  refine lv_astore_n (lv' := [(3, .ref qo), (2, .ref q1), (1, .ref q0), (0, .ref b)]) hx hb e10 rfl hl (by decide) rfl (fun ls hl => ?_)
  refine lv_iconst (v := nI 0) hx hb e11 (by decide) ?_
  refine lv_istore (lv' := [(4, .int (nI 0)), (3, .ref qo), (2, .ref q1), (1, .ref q0), (0, .ref b)]) hx hb e12 hl (by decide) rfl (fun ls hl => ?_)
  subst hG
  have hP2 : va_P (dC, dI) vwCl (stW (dC, dI, cA, stAd q0 q1 qo a a') q0 q1 qo a a') H := hP
  have hD2 : va_D (fun q : Nat => s.heap.size ≤ q) (stW (dC, dI, cA, stAd q0 q1 qo a a') q0 q1 qo a a') := hD
  have CC : LC (dC, dI, cA, stAd q0 q1 qo a a') p s m meth c b L xs := ⟨C0, hL, hKK _, st_J hD2, st_A hD2⟩
  exact lw_loop CC hl0 513 0 _ _ 0 I0 L0 136 rfl (Nat.zero_le _) (by decide) (by decide) (by decide) st_INV H locs ls (st_P hP2) hS (lv_sub hl [4, 3, 2, 1, 0] rfl)
