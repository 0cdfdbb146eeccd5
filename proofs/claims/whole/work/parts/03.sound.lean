/-! the picture's lists -/
theorem rt_W_at {G : rt_G} {I : rt_I} {L : rt_L} {r c : Nat} (h : c < rt_NC) : (rt_W G I L r)[c]? = some (G.2.2.2 c, rt_en G.2.2.2 G.2.2.1 I L r c) := by
  unfold rt_W
  rw [List.getElem?_map, List.getElem?_range h]
  rfl
theorem rt_W_set {G : rt_G} {I I' : rt_I} {L L' : rt_L} {r r' c : Nat} {e : va_E} (h : c < rt_NC) (he : rt_en G.2.2.2 G.2.2.1 I' L' r' c = e) (ho : ∀ x, x < rt_NC → x ≠ c → rt_en G.2.2.2 G.2.2.1 I' L' r' x = rt_en G.2.2.2 G.2.2.1 I L r x) :
    (rt_W G I L r).set c (G.2.2.2 c, e) = rt_W G I' L' r' := by
  apply List.ext_getElem?
  intro k
  have hl : (rt_W G I L r).length = rt_NC := by simp [rt_W]
  by_cases hk : k < rt_NC
  · by_cases hc : k = c
    · subst hc
      rw [List.getElem?_set_self (by rw [hl]; exact h), rt_W_at h, he]
    · rw [List.getElem?_set_ne (Ne.symm hc), rt_W_at hk, rt_W_at hk, ho k hk hc]
  · rw [List.getElem?_eq_none (by rw [List.length_set, hl]; omega), List.getElem?_eq_none (by simp [rt_W]; omega)]
theorem rt_D {G : rt_G} {I : rt_I} {L : rt_L} {r : Nat} (h : rt_J G) : va_D (rt_A G) (rt_W G I L r) := by
  have key : ∀ (k : Nat) (q : Nat × va_E), (rt_W G I L r)[k]? = some q → k < rt_NC ∧ G.2.2.2 k = q.1 := by
    intro k q hq
    have hk : k < rt_NC := by
      have := (List.getElem?_eq_some_iff.mp hq).1
      simpa [rt_W] using this
    rw [rt_W_at hk] at hq
    cases hq
    exact ⟨hk, rfl⟩
  refine ⟨fun i j p q hi hj hpq => ?_, fun k q hq => ?_⟩
  · obtain ⟨a1, a2⟩ := key i p hi
    obtain ⟨b1, b2⟩ := key j q hj
    exact h i j a1 b1 (by rw [a2, b2, hpq])
  · obtain ⟨a1, a2⟩ := key k q hq
    exact ⟨k, a1, a2⟩
theorem rt_isO_inv {c ci j : Nat} (h : rt_isO c ci j = true) : c < rt_NC ∧ (rt_lay c).1 = ci + 5 ∧ j < (rt_lay c).2 := by
  unfold rt_isO at h
  rw [Bool.and_eq_true, Bool.and_eq_true] at h
  exact ⟨Nat.le_of_ble_eq_true h.1, Nat.eq_of_beq_eq_true h.2.1, Nat.le_of_ble_eq_true h.2.2⟩
theorem rt_isA_inv {c k : Nat} (h : rt_isA c k = true) : c < rt_NC ∧ (rt_lay c).1 = k := by
  unfold rt_isA at h
  rw [Bool.and_eq_true] at h
  exact ⟨Nat.le_of_ble_eq_true h.1, Nat.eq_of_beq_eq_true h.2⟩
theorem rt_en_o {ad : Nat → Nat} {cA : Nat → ClassId} {I : rt_I} {L : rt_L} {r c ci : Nat} (h : (rt_lay c).1 = ci + 5) : rt_en ad cA I L r c = .inr (ci, (List.range (rt_lay c).2).map (rt_fv ad I r ci c)) := by
  unfold rt_en
  generalize hq : rt_lay c = q at h
  obtain ⟨a, n⟩ := q
  dsimp only at h
  subst h
  rfl
theorem rt_en_i {ad : Nat → Nat} {cA : Nat → ClassId} {I : rt_I} {L : rt_L} {r c : Nat} (h : (rt_lay c).1 = 0) : rt_en ad cA I L r c = .inl (cA 0, (rt_lay c).2, .inl (I c)) := by
  unfold rt_en
  generalize hq : rt_lay c = q at h
  obtain ⟨a, n⟩ := q
  dsimp only at h
  subst h
  rfl
theorem rt_en_b {ad : Nat → Nat} {cA : Nat → ClassId} {I : rt_I} {L : rt_L} {r c : Nat} (h : (rt_lay c).1 = 1) : rt_en ad cA I L r c = .inl (cA 1, (rt_lay c).2, .inl (I c)) := by
  unfold rt_en
  generalize hq : rt_lay c = q at h
  obtain ⟨a, n⟩ := q
  dsimp only at h
  subst h
  rfl
theorem rt_en_z {ad : Nat → Nat} {cA : Nat → ClassId} {I : rt_I} {L : rt_L} {r c : Nat} (h : (rt_lay c).1 = 2) : rt_en ad cA I L r c = .inl (cA 2, (rt_lay c).2, .inl (I c)) := by
  unfold rt_en
  generalize hq : rt_lay c = q at h
  obtain ⟨a, n⟩ := q
  dsimp only at h
  subst h
  rfl
theorem rt_en_l {ad : Nat → Nat} {cA : Nat → ClassId} {I : rt_I} {L : rt_L} {r c : Nat} (h : (rt_lay c).1 = 3) : rt_en ad cA I L r c = .inl (cA 3, (rt_lay c).2, .inr (.inl (L c))) := by
  unfold rt_en
  generalize hq : rt_lay c = q at h
  obtain ⟨a, n⟩ := q
  dsimp only at h
  subst h
  rfl
theorem rt_en_q {ad : Nat → Nat} {cA : Nat → ClassId} {I : rt_I} {L : rt_L} {r c : Nat} (h : (rt_lay c).1 = 4) : rt_en ad cA I L r c = .inl (cA 4, (rt_lay c).2, .inr (.inr (.inr (.inr (fun j => (rt_pt r c j).map ad))))) := by
  unfold rt_en
  generalize hq : rt_lay c = q at h
  obtain ⟨a, n⟩ := q
  dsimp only at h
  subst h
  rfl
theorem rt_en_ne {ad : Nat → Nat} {cA : Nat → ClassId} {I I' : rt_I} {L : rt_L} {r c : Nat} (h : I' c = I c) : rt_en ad cA I' L r c = rt_en ad cA I L r c := by
  unfold rt_en
  simp only [h]
  have : rt_fv ad I' r = fun ci c' j => rt_fv ad I' r ci c' j := rfl
  split <;> try rfl
  congr 2
  apply List.map_congr_left
  intro j _
  simp [rt_fv, h]
theorem rt_en_neL {ad : Nat → Nat} {cA : Nat → ClassId} {I : rt_I} {L L' : rt_L} {r c : Nat} (h : L' c = L c) : rt_en ad cA I L' r c = rt_en ad cA I L r c := by
  unfold rt_en
  simp only [h]
theorem rt_u_ne {I : rt_I} {c j x : Nat} {v : Int32} (h : x ≠ c) : rt_u I c j v x = I x := by simp [rt_u, h]
theorem rt_u_eq {I : rt_I} {c j : Nat} {v : Int32} : rt_u I c j v c = upd (I c) j v := by simp [rt_u]
theorem rt_uL_ne {I : rt_L} {c j x : Nat} {v : Int64} (h : x ≠ c) : rt_uL I c j v x = I x := by simp [rt_uL, h]
theorem rt_uL_eq {I : rt_L} {c j : Nat} {v : Int64} : rt_uL I c j v c = vp_updL (I c) j v := by simp [rt_uL]
theorem rt_uA_ne {I : rt_I} {c x : Nat} {f : Nat → Int32} (h : x ≠ c) : rt_uA I c f x = I x := by simp [rt_uA, h]
theorem rt_uA_eq {I : rt_I} {c : Nat} {f : Nat → Int32} : rt_uA I c f c = f := by simp [rt_uA]
theorem rt_gv_v {ad : Nat → Nat} {I : rt_I} {r ci c j : Nat} (hg : rt_gok r c j = true) : rt_v ad (rt_gv I r ci c j) = rt_fv ad I r ci c j := by
  unfold rt_gok at hg
  unfold rt_gv rt_fv
  cases rt_isR ci j with
  | false => rfl
  | true =>
    revert hg
    cases rt_pt r c j with
    | none => exact fun _ => rfl
    | some b =>
      intro hg
      have hb : Nat.blt b 136 = true := hg
      show Value.ref (ad b) = va_rf (match Nat.blt b 136 with
        | true => some (ad b)
        | false => none)
      rw [hb]
      rfl
/-! the locals -/
theorem rt_lvl_mem {ad : Nat → Nat} {lv : rt_V} {i : Nat} {w : Value} : (i, w) ∈ rt_lvl ad lv ↔ ∃ v, lv[i]? = some (some v) ∧ w = rt_v ad v := by
  unfold rt_lvl
  rw [List.mem_filterMap]
  constructor
  · rintro ⟨k, hk, h⟩
    split at h
    · rename_i v hv
      cases h
      exact ⟨v, hv, rfl⟩
    · cases h
  · rintro ⟨v, hv, rfl⟩
    refine ⟨i, List.mem_range.mpr (List.getElem?_eq_some_iff.mp hv).1, ?_⟩
    rw [hv]
theorem rt_lv_at {ad : Nat → Nat} {nL : Nat} {ls : Array Slot} {lv : rt_V} {i : Nat} {v : Value} (h : rt_lv ad nL ls lv) (hv : lv[i]? = some (some v)) : ls[i]? = some (.val (rt_v ad v)) :=
  h.2.2.2 (i, rt_v ad v) (rt_lvl_mem.mpr ⟨v, hv, rfl⟩)
theorem rt_v_cat (ad : Nat → Nat) (v : Value) : (rt_v ad v).category = v.category := by cases v <;> rfl
theorem rt_okS_inv {lv : rt_V} {i : Nat} (h : rt_okS lv i = true) : i < lv.length ∧ ∀ j v, j + 1 = i → lv[j]? = some (some v) → v.category = 1 := by
  unfold rt_okS at h
  rw [Bool.and_eq_true] at h
  refine ⟨Nat.le_of_ble_eq_true h.1, fun j v hj hv => ?_⟩
  subst hj
  have h2 := h.2
  simp only [hv] at h2
  simpa using h2
theorem rt_lv_set {ad : Nat → Nat} {nL : Nat} {ls' : Array Slot} {lv : rt_V} {i : Nat} {v : Value} (hlen : lv.length = nL) (ho : rt_okS lv i = true) (h : lv_has ls' nL ((i, rt_v ad v) :: (rt_lvl ad lv).filter (fun q => !(q.1 == i) && !(q.1 + 1 == i && q.2.category == 2)))) : rt_lv ad nL ls' (lv.set i (some v)) := by
  obtain ⟨hi, hb⟩ := rt_okS_inv ho
  refine ⟨by rw [List.length_set]; exact hlen, h.1, h.2.1, fun q hq => h.2.2 q ?_⟩
  obtain ⟨j, w⟩ := q
  obtain ⟨u, hu, rfl⟩ := rt_lvl_mem.mp hq
  by_cases hj : j = i
  · subst hj
    rw [List.getElem?_set_self hi] at hu
    cases hu
    exact List.mem_cons_self
  · rw [List.getElem?_set_ne (Ne.symm hj)] at hu
    refine List.mem_cons_of_mem _ (List.mem_filter.mpr ⟨rt_lvl_mem.mpr ⟨u, hu, rfl⟩, ?_⟩)
    by_cases hj1 : j + 1 = i
    · have := hb j u hj1 hu
      simp [hj, rt_v_cat, this]
    · simp [hj, hj1]
theorem rt_lv_set2 {ad : Nat → Nat} {nL : Nat} {ls' : Array Slot} {lv : rt_V} {i : Nat} {v : Value} (hlen : lv.length = nL) (ho : rt_okS lv i = true) (h : lv_has ls' nL ((i, rt_v ad v) :: (rt_lvl ad lv).filter (fun q => !(q.1 == i) && (!(q.1 == i + 1) && !(q.1 + 1 == i && q.2.category == 2))))) : rt_lv ad nL ls' ((lv.set i (some v)).set (i + 1) none) := by
  obtain ⟨hi, hb⟩ := rt_okS_inv ho
  refine ⟨by rw [List.length_set, List.length_set]; exact hlen, h.1, h.2.1, fun q hq => h.2.2 q ?_⟩
  obtain ⟨j, w⟩ := q
  obtain ⟨u, hu, rfl⟩ := rt_lvl_mem.mp hq
  by_cases hj2 : j = i + 1
  · subst hj2
    rw [List.getElem?_set] at hu
    simp at hu
  · rw [List.getElem?_set_ne (Ne.symm hj2)] at hu
    by_cases hj : j = i
    · subst hj
      rw [List.getElem?_set_self hi] at hu
      cases hu
      exact List.mem_cons_self
    · rw [List.getElem?_set_ne (Ne.symm hj)] at hu
      refine List.mem_cons_of_mem _ (List.mem_filter.mpr ⟨rt_lvl_mem.mpr ⟨u, hu, rfl⟩, ?_⟩)
      by_cases hj1 : j + 1 = i
      · have := hb j u hj1 hu
        simp [hj, hj2, rt_v_cat, this]
      · simp [hj, hj2, hj1]
/-! words -/
theorem rt_goodIn {K : rt_K} (h : Cond.code K.1 K.2.1 K.2.2.1 K.2.2.2 ∈ rt_tbl) : GoodIn rt_tbl (rt_ws K) := by
  intro w hw
  rcases List.mem_cons.mp hw with rfl | hw
  · exact ⟨h, good_of_word (rt_good _ h)⟩
  · exact ⟨hw, good_of_word (rt_good _ hw)⟩
theorem rt_K_moved {G : rt_G} {u U : State} (hvm : u.vm.Alike U.vm) (h : rt_KK G u) : rt_KK G U := va_K.moved hvm h
theorem rt_cls (ci : Nat) (q : vw_C) (h : vwCl[ci]? = some q) : (∀ w ∈ u_ws q.1 q.2.1 q.2.2, w ∈ rt_tbl) ∧ ∃ ty : Nat → FieldType, (∀ k, k < q.2.2 → parseFieldDescriptor (q.2.1 k).2.2.1 = some (ty k)) ∧ ∀ a, a < q.2.2 → ∀ b, b < q.2.2 → a ≠ b → (q.2.1 a).2.1 ≠ (q.2.1 b).2.1 := by
  match ci, h with
  | 0, h => cases h; exact ⟨rt_uX0, tyX0, tyX0_ok, nmX0⟩
  | 1, h => cases h; exact ⟨rt_uX1, tyX1, tyX1_ok, nmX1⟩
  | 2, h => cases h; exact ⟨rt_uX2, tyX2, tyX2_ok, nmX2⟩
  | 3, h => cases h; exact ⟨rt_uX3, tyX3, tyX3_ok, nmX3⟩
  | 4, h => cases h; exact ⟨rt_uX4, tyX4, tyX4_ok, nmX4⟩
  | 5, h => cases h; exact ⟨rt_uX5, tyX5, tyX5_ok, nmX5⟩
  | 6, h => cases h; exact ⟨rt_uX6, tyX6, tyX6_ok, nmX6⟩
  | 7, h => cases h; exact ⟨rt_uX7, tyX7, tyX7_ok, nmX7⟩
  | 8, h => cases h; exact ⟨rt_uX8, tyX8, tyX8_ok, nmX8⟩
  | 9, h => cases h; exact ⟨rt_uX9, tyX9, tyX9_ok, nmX9⟩
  | 10, h => cases h; exact ⟨rt_uX10, tyX10, tyX10_ok, nmX10⟩
  | 11, h => cases h; exact ⟨rt_uX11, tyX11, tyX11_ok, nmX11⟩
  | 12, h => cases h; exact ⟨rt_uX12, tyX12, tyX12_ok, nmX12⟩
  | k + 13, h => simp at h
/-- a method is entered -/
def rt_en0 (av : List Value) : rt_V := av.flatMap fun v => if v.category = 2 then [some v, none] else [some v]
def rt_ent (av : List Value) (nL : Nat) : rt_V := rt_en0 av ++ List.replicate (nL - (rt_en0 av).length) none
theorem rt_ent_len (ad : Nat → Nat) (av : List Value) : (lg_sl (av.map (rt_v ad))).length = (rt_en0 av).length := by
  induction av with
  | nil => rfl
  | cons v t ih =>
    simp only [List.map_cons, lg_sl, rt_en0, List.flatMap_cons, List.length_append, rt_v_cat] at ih ⊢
    rw [ih]
    by_cases h : v.category = 2 <;> simp [h]
theorem rt_ent_at (ad : Nat → Nat) (av : List Value) : ∀ (j : Nat) (v : Value), (rt_en0 av)[j]? = some (some v) → (lg_sl (av.map (rt_v ad)))[j]? = some (.val (rt_v ad v)) := by
  induction av with
  | nil => intro j v h; simp [rt_en0] at h
  | cons u t ih =>
    intro j v h
    simp only [List.map_cons, lg_sl, rt_en0, List.flatMap_cons, rt_v_cat] at ih h ⊢
    by_cases hu : u.category = 2
    · simp only [hu, if_true] at h ⊢
      match j with
      | 0 => simp at h; simp [h]
      | 1 => simp at h
      | j + 2 => simpa using ih j v (by simpa using h)
    · simp only [hu, if_false] at h ⊢
      match j with
      | 0 => simp at h; simp [h]
      | j + 1 => simpa using ih j v (by simpa using h)
theorem rt_enter {G : rt_G} {d : Nat} {K : rt_K} {Q : rt_Q} {av : List Value} {I : rt_I} {L : rt_L} {r : Nat} (hy : plainName K.1.cls = true) (hn : Nat.ble (rt_en0 av).length K.2.2.1 = true)
    (h : rt_AW G d K Q 0 (rt_ent av K.2.2.1) [] I L r) : rt_Call G d K av I L r Q := by
  intro l
  refine Met.ofW (cc := K.2.1) (maxL := K.2.2.1) (ret := K.2.2.2) (ws' := rt_tbl) hy rfl ?_
  intro p e s m args below meth c s₁ B hml hv
  obtain ⟨rfl, hP, hK, hJ⟩ := hv
  have hts := atoms_spec (ws := rt_ws K) B.pre
  have hown : s.vm.findClass K.1.cls = some m.cls := findClass_of_methodNamed B.named
  have hlen : (lg_sl (av.map (rt_v G.2.2.2))).length ≤ K.2.2.1 := by rw [rt_ent_len]; exact Nat.le_of_ble_eq_true hn
  have hl := lv_entry (av.map (rt_v G.2.2.2)) (n := K.2.2.1) hlen
  rw [lg_entry_eq]
  refine h l p e s m _ below meth c s.heap [] _ ⟨B.exec, B.bytes, B.returns, hml, hown, fun w hw => hts w (List.mem_cons_of_mem _ hw), B.notSynchronized, hK, hJ⟩ hP va_S.rf ⟨?_, hl.1, hl.2.1, ?_⟩
  · have h1 := Nat.le_of_ble_eq_true hn
    simp only [rt_ent, List.length_append, List.length_replicate]
    omega
  · rintro ⟨j, w⟩ hq
    obtain ⟨v, hv, rfl⟩ := rt_lvl_mem.mp hq
    unfold rt_ent at hv
    have hj : j < (rt_en0 av).length := by
      rcases Nat.lt_or_ge j (rt_en0 av).length with h2 | h2
      · exact h2
      · rw [List.getElem?_append_right h2, List.getElem?_replicate] at hv
        split at hv <;> simp at hv
    rw [List.getElem?_append_left hj] at hv
    have h3 := rt_ent_at G.2.2.2 av j v hv
    show (lg_sl _ ++ _).toArray[j]? = _
    rw [List.getElem?_toArray, List.getElem?_append_left (by rw [rt_ent_len]; exact hj)]
    exact h3
theorem rt_Call_mono {G : rt_G} {d : Nat} {K : rt_K} {Q Q' : rt_Q} {av : List Value} {I : rt_I} {L : rt_L} {r : Nat} (h : rt_Call G d K av I L r Q) (hQ : ∀ v I L r, Q v I L r → Q' v I L r) : rt_Call G d K av I L r Q' := by
  intro l p e ha hc hk s m args below hf happ hP hT
  obtain ⟨k, o, h1, h2, h3, ⟨⟨⟨v, I', L', r', e1, e2, e3⟩, hF⟩, h5⟩⟩ := h l p e ha hc hk s m args below hf happ hP hT
  exact ⟨k, o, h1, h2, h3, ⟨⟨⟨v, I', L', r', e1, hQ _ _ _ _ e2, e3⟩, hF⟩, h5⟩⟩
