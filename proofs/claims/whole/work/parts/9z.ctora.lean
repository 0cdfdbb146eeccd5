/-! CONSTRUCTORS, one by one -/
def kW7 (G : rt_G) (h0 : Nat) (a : Nat → Nat) : va_W := (h0, .inr (7, [.ref (a 0), .int 0, .int 0, .int 0])) :: [((a 0), .inl (G.2.2.1 0, 80, .inl (fun _ => 0)))]
def kI7 : rt_K := (yX7_init, cX7_init, 1, none)
set_option maxHeartbeats 4000000 in
set_option maxRecDepth 100000 in
theorem cI7 {G : rt_G} {h0 : Nat} : kiCall G ({ frames := 1, cells := 1, slots := 80, locals := 40 } : Room) kI7 1 80 [.ref h0] h0 (.inr (7, [.null, .int 0, .int 0, .int 0])) [] (kW7 G h0) := by
  refine ki_enter (lv := [(0, .ref h0)]) (by decide +kernel) rfl rfl (Nat.le_of_ble_eq_true rfl) rfl (fun A => ?_)
  refine ki_aload_n (i := 0) (j := 0) (place := 0) (x := h0) (by decide +kernel) rfl rfl ?_
  refine ki_obj (idx := 3) (rt_at 116 (by decide +kernel) (by decide +kernel)) ⟨(Nat.le_of_ble_eq_true rfl), (Nat.le_of_ble_eq_true rfl)⟩ (by decide +kernel) ?_
  refine ki_aload_n (i := 0) (j := 0) (place := 0) (x := h0) (by decide +kernel) rfl rfl ?_
  refine ki_bipush (x := 80) (v := 80) (by decide +kernel) (by decide) ?_
  refine ki_newa (atype := .int) (ty := .int) (a0 := (80, .inl (fun _ => 0))) (N' := 80) (t0 := 0) rfl rfl (fun _ _ h => h) (rt_at 138 (by decide +kernel) (by decide +kernel)) (fun _ => rfl) (by decide) (by decide) (Nat.le_of_ble_eq_true rfl) ⟨(Nat.le_of_ble_eq_true rfl), (Nat.le_of_ble_eq_true rfl)⟩ (by decide +kernel) (fun q1 => ?_)
  refine ki_ws ((h0, .inr (7, [.null, .int 0, .int 0, .int 0])) :: [(q1, .inl (G.2.2.1 0, 80, .inl (fun _ => 0)))]) rfl ?_
  refine ki_put (ci := 7) (idx := 11) (T := TX7) (ty := (.array .int)) (v := (.ref q1)) 0 rfl (by decide) (rt_at 117 (by decide +kernel) (by decide +kernel)) rfl (by decide +kernel) rfl rfl (Nat.le_of_ble_eq_true rfl) (by decide +kernel) ?_
  refine ki_ws ((h0, .inr (7, [.ref q1, .int 0, .int 0, .int 0])) :: [(q1, .inl (G.2.2.1 0, 80, .inl (fun _ => 0)))]) rfl ?_
  refine ki_aload_n (i := 0) (j := 0) (place := 0) (x := h0) (by decide +kernel) rfl rfl ?_
  refine ki_iconst (x := 0) (v := 0) (by decide +kernel) (by decide) ?_
  refine ki_put (ci := 7) (idx := 15) (T := TX7) (ty := .int) (v := (.int 0)) 1 rfl (by decide) (rt_at 118 (by decide +kernel) (by decide +kernel)) rfl (by decide +kernel) rfl rfl (Nat.le_of_ble_eq_true rfl) (by decide +kernel) ?_
  refine ki_ws ((h0, .inr (7, [.ref q1, .int 0, .int 0, .int 0])) :: [(q1, .inl (G.2.2.1 0, 80, .inl (fun _ => 0)))]) rfl ?_
  refine ki_aload_n (i := 0) (j := 0) (place := 0) (x := h0) (by decide +kernel) rfl rfl ?_
  refine ki_iconst (x := 0) (v := 0) (by decide +kernel) (by decide) ?_
  refine ki_put (ci := 7) (idx := 19) (T := TX7) (ty := .int) (v := (.int 0)) 2 rfl (by decide) (rt_at 123 (by decide +kernel) (by decide +kernel)) rfl (by decide +kernel) rfl rfl (Nat.le_of_ble_eq_true rfl) (by decide +kernel) ?_
  refine ki_ws ((h0, .inr (7, [.ref q1, .int 0, .int 0, .int 0])) :: [(q1, .inl (G.2.2.1 0, 80, .inl (fun _ => 0)))]) rfl ?_
  refine ki_aload_n (i := 0) (j := 0) (place := 0) (x := h0) (by decide +kernel) rfl rfl ?_
  refine ki_iconst (x := 0) (v := 0) (by decide +kernel) (by decide) ?_
  refine ki_put (ci := 7) (idx := 22) (T := TX7) (ty := .int) (v := (.int 0)) 3 rfl (by decide) (rt_at 128 (by decide +kernel) (by decide +kernel)) rfl (by decide +kernel) rfl rfl (Nat.le_of_ble_eq_true rfl) (by decide +kernel) ?_
  refine ki_ws ((h0, .inr (7, [.ref q1, .int 0, .int 0, .int 0])) :: [(q1, .inl (G.2.2.1 0, 80, .inl (fun _ => 0)))]) rfl ?_
  exact ki_ret (fun j => [q1].getD j 0) (by rfl) ⟨rfl, rfl⟩ (by decide +kernel)
def kW8 (G : rt_G) (h0 : Nat) (a : Nat → Nat) : va_W := (h0, .inr (8, [.ref (a 0), .ref (a 1), .int 1, .int 0])) :: ([((a 0), .inl (G.2.2.1 0, 9, .inl (upd (upd (upd (fun _ => 0) 0 12) 1 20) 2 0)))] ++ [((a 1), .inl (G.2.2.1 0, 9, .inl (fun _ => 0)))])
def kI8 : rt_K := (yX8_init, cX8_init, 1, none)
set_option maxHeartbeats 4000000 in
set_option maxRecDepth 100000 in
theorem cI8 {G : rt_G} {h0 : Nat} : kiCall G ({ frames := 1, cells := 2, slots := 18, locals := 40 } : Room) kI8 2 18 [.ref h0] h0 (.inr (8, [.null, .null, .int 0, .int 0])) [] (kW8 G h0) := by
  refine ki_enter (lv := [(0, .ref h0)]) (by decide +kernel) rfl rfl (Nat.le_of_ble_eq_true rfl) rfl (fun A => ?_)
  refine ki_aload_n (i := 0) (j := 0) (place := 0) (x := h0) (by decide +kernel) rfl rfl ?_
  refine ki_obj (idx := 3) (rt_at 144 (by decide +kernel) (by decide +kernel)) ⟨(Nat.le_of_ble_eq_true rfl), (Nat.le_of_ble_eq_true rfl)⟩ (by decide +kernel) ?_
  refine ki_aload_n (i := 0) (j := 0) (place := 0) (x := h0) (by decide +kernel) rfl rfl ?_
  refine ki_bipush (x := 9) (v := 9) (by decide +kernel) (by decide) ?_
  refine ki_newa (atype := .int) (ty := .int) (a0 := (9, .inl (fun _ => 0))) (N' := 9) (t0 := 0) rfl rfl (fun _ _ h => h) (rt_at 138 (by decide +kernel) (by decide +kernel)) (fun _ => rfl) (by decide) (by decide) (Nat.le_of_ble_eq_true rfl) ⟨(Nat.le_of_ble_eq_true rfl), (Nat.le_of_ble_eq_true rfl)⟩ (by decide +kernel) (fun q1 => ?_)
  refine ki_ws ((h0, .inr (8, [.null, .null, .int 0, .int 0])) :: [(q1, .inl (G.2.2.1 0, 9, .inl (fun _ => 0)))]) rfl ?_
  refine ki_put (ci := 8) (idx := 11) (T := TX8) (ty := (.array .int)) (v := (.ref q1)) 0 rfl (by decide) (rt_at 145 (by decide +kernel) (by decide +kernel)) rfl (by decide +kernel) rfl rfl (Nat.le_of_ble_eq_true rfl) (by decide +kernel) ?_
  refine ki_ws ((h0, .inr (8, [.ref q1, .null, .int 0, .int 0])) :: [(q1, .inl (G.2.2.1 0, 9, .inl (fun _ => 0)))]) rfl ?_
  refine ki_aload_n (i := 0) (j := 0) (place := 0) (x := h0) (by decide +kernel) rfl rfl ?_
  refine ki_bipush (x := 9) (v := 9) (by decide +kernel) (by decide) ?_
  refine ki_newa (atype := .int) (ty := .int) (a0 := (9, .inl (fun _ => 0))) (N' := 9) (t0 := 0) rfl rfl (fun _ _ h => h) (rt_at 138 (by decide +kernel) (by decide +kernel)) (fun _ => rfl) (by decide) (by decide) (Nat.le_of_ble_eq_true rfl) ⟨(Nat.le_of_ble_eq_true rfl), (Nat.le_of_ble_eq_true rfl)⟩ (by decide +kernel) (fun q2 => ?_)
  refine ki_ws ((h0, .inr (8, [.ref q1, .null, .int 0, .int 0])) :: ([(q1, .inl (G.2.2.1 0, 9, .inl (fun _ => 0)))] ++ [(q2, .inl (G.2.2.1 0, 9, .inl (fun _ => 0)))])) rfl ?_
  refine ki_put (ci := 8) (idx := 15) (T := TX8) (ty := (.array .int)) (v := (.ref q2)) 1 rfl (by decide) (rt_at 146 (by decide +kernel) (by decide +kernel)) rfl (by decide +kernel) rfl rfl (Nat.le_of_ble_eq_true rfl) (by decide +kernel) ?_
  refine ki_ws ((h0, .inr (8, [.ref q1, .ref q2, .int 0, .int 0])) :: ([(q1, .inl (G.2.2.1 0, 9, .inl (fun _ => 0)))] ++ [(q2, .inl (G.2.2.1 0, 9, .inl (fun _ => 0)))])) rfl ?_
  refine ki_aload_n (i := 0) (j := 0) (place := 0) (x := h0) (by decide +kernel) rfl rfl ?_
  refine ki_iconst (x := 1) (v := 1) (by decide +kernel) (by decide) ?_
  refine ki_put (ci := 8) (idx := 18) (T := TX8) (ty := .int) (v := (.int 1)) 2 rfl (by decide) (rt_at 147 (by decide +kernel) (by decide +kernel)) rfl (by decide +kernel) rfl rfl (Nat.le_of_ble_eq_true rfl) (by decide +kernel) ?_
  refine ki_ws ((h0, .inr (8, [.ref q1, .ref q2, .int 1, .int 0])) :: ([(q1, .inl (G.2.2.1 0, 9, .inl (fun _ => 0)))] ++ [(q2, .inl (G.2.2.1 0, 9, .inl (fun _ => 0)))])) rfl ?_
  refine ki_aload_n (i := 0) (j := 0) (place := 0) (x := h0) (by decide +kernel) rfl rfl ?_
  refine ki_iconst (x := 0) (v := 0) (by decide +kernel) (by decide) ?_
  refine ki_put (ci := 8) (idx := 22) (T := TX8) (ty := .int) (v := (.int 0)) 3 rfl (by decide) (rt_at 149 (by decide +kernel) (by decide +kernel)) rfl (by decide +kernel) rfl rfl (Nat.le_of_ble_eq_true rfl) (by decide +kernel) ?_
  refine ki_ws ((h0, .inr (8, [.ref q1, .ref q2, .int 1, .int 0])) :: ([(q1, .inl (G.2.2.1 0, 9, .inl (fun _ => 0)))] ++ [(q2, .inl (G.2.2.1 0, 9, .inl (fun _ => 0)))])) rfl ?_
  refine ki_aload_n (i := 0) (j := 0) (place := 0) (x := h0) (by decide +kernel) rfl rfl ?_
  refine ki_get (ci := 8) (idx := 11) (T := TX8) (q0 := 0) (v := .ref q1) 0 rfl (by decide) (rt_at 145 (by decide +kernel) (by decide +kernel)) rfl rfl (by decide +kernel) ?_
  refine ki_iconst (x := 0) (v := 0) (by decide +kernel) (by decide) ?_
  refine ki_bipush (x := 12) (v := 12) (by decide +kernel) (by decide) ?_
  refine ki_iast (q0 := 1) (N := 9) (i := 0) (x := 12) rfl (by show ¬ ((0 : Int32) < 0 ∨ 9 ≤ (0 : Int32).toNatClampNeg); decide) (by decide +kernel) ?_
  refine ki_ws ((h0, .inr (8, [.ref q1, .ref q2, .int 1, .int 0])) :: ([(q1, .inl (G.2.2.1 0, 9, .inl (upd (fun _ => 0) 0 12)))] ++ [(q2, .inl (G.2.2.1 0, 9, .inl (fun _ => 0)))])) rfl ?_
  refine ki_aload_n (i := 0) (j := 0) (place := 0) (x := h0) (by decide +kernel) rfl rfl ?_
  refine ki_get (ci := 8) (idx := 11) (T := TX8) (q0 := 0) (v := .ref q1) 0 rfl (by decide) (rt_at 145 (by decide +kernel) (by decide +kernel)) rfl rfl (by decide +kernel) ?_
  refine ki_iconst (x := 1) (v := 1) (by decide +kernel) (by decide) ?_
  refine ki_bipush (x := 20) (v := 20) (by decide +kernel) (by decide) ?_
  refine ki_iast (q0 := 1) (N := 9) (i := 1) (x := 20) rfl (by show ¬ ((1 : Int32) < 0 ∨ 9 ≤ (1 : Int32).toNatClampNeg); decide) (by decide +kernel) ?_
  refine ki_ws ((h0, .inr (8, [.ref q1, .ref q2, .int 1, .int 0])) :: ([(q1, .inl (G.2.2.1 0, 9, .inl (upd (upd (fun _ => 0) 0 12) 1 20)))] ++ [(q2, .inl (G.2.2.1 0, 9, .inl (fun _ => 0)))])) rfl ?_
  refine ki_aload_n (i := 0) (j := 0) (place := 0) (x := h0) (by decide +kernel) rfl rfl ?_
  refine ki_get (ci := 8) (idx := 11) (T := TX8) (q0 := 0) (v := .ref q1) 0 rfl (by decide) (rt_at 145 (by decide +kernel) (by decide +kernel)) rfl rfl (by decide +kernel) ?_
  refine ki_iconst (x := 2) (v := 2) (by decide +kernel) (by decide) ?_
  refine ki_iconst (x := 0) (v := 0) (by decide +kernel) (by decide) ?_
  refine ki_iast (q0 := 1) (N := 9) (i := 2) (x := 0) rfl (by show ¬ ((2 : Int32) < 0 ∨ 9 ≤ (2 : Int32).toNatClampNeg); decide) (by decide +kernel) ?_
  refine ki_ws ((h0, .inr (8, [.ref q1, .ref q2, .int 1, .int 0])) :: ([(q1, .inl (G.2.2.1 0, 9, .inl (upd (upd (upd (fun _ => 0) 0 12) 1 20) 2 0)))] ++ [(q2, .inl (G.2.2.1 0, 9, .inl (fun _ => 0)))])) rfl ?_
  exact ki_ret (fun j => [q1, q2].getD j 0) (by rfl) ⟨rfl, rfl⟩ (by decide +kernel)
def kW6 (G : rt_G) (h0 : Nat) (a : Nat → Nat) : va_W := (h0, .inr (6, [.ref (a 0), .int 0, .ref (a 1), .int 0, .ref (a 2), .int 0, .ref (a 3), .ref (a 4), .int 0, .int 0])) :: (((([((a 0), .inl (G.2.2.1 0, 40, .inl (fun _ => 0)))] ++ [((a 1), .inl (G.2.2.1 0, 40, .inl (fun _ => 0)))]) ++ [((a 2), .inl (G.2.2.1 0, 40, .inl (fun _ => 0)))]) ++ [((a 3), .inl (G.2.2.1 0, 40, .inl (fun _ => 0)))]) ++ [((a 4), .inl (G.2.2.1 0, 6, .inl (fun _ => 0)))])
def kI6 : rt_K := (yX6_init, cX6_init, 1, none)
set_option maxHeartbeats 4000000 in
set_option maxRecDepth 100000 in
theorem cI6 {G : rt_G} {h0 : Nat} : kiCall G ({ frames := 1, cells := 5, slots := 166, locals := 40 } : Room) kI6 5 166 [.ref h0] h0 (.inr (6, [.null, .int 0, .null, .int 0, .null, .int 0, .null, .null, .int 0, .int 0])) [] (kW6 G h0) := by
  refine ki_enter (lv := [(0, .ref h0)]) (by decide +kernel) rfl rfl (Nat.le_of_ble_eq_true rfl) rfl (fun A => ?_)
  refine ki_aload_n (i := 0) (j := 0) (place := 0) (x := h0) (by decide +kernel) rfl rfl ?_
  refine ki_obj (idx := 3) (rt_at 164 (by decide +kernel) (by decide +kernel)) ⟨(Nat.le_of_ble_eq_true rfl), (Nat.le_of_ble_eq_true rfl)⟩ (by decide +kernel) ?_
  refine ki_aload_n (i := 0) (j := 0) (place := 0) (x := h0) (by decide +kernel) rfl rfl ?_
  refine ki_bipush (x := 40) (v := 40) (by decide +kernel) (by decide) ?_
  refine ki_newa (atype := .int) (ty := .int) (a0 := (40, .inl (fun _ => 0))) (N' := 40) (t0 := 0) rfl rfl (fun _ _ h => h) (rt_at 138 (by decide +kernel) (by decide +kernel)) (fun _ => rfl) (by decide) (by decide) (Nat.le_of_ble_eq_true rfl) ⟨(Nat.le_of_ble_eq_true rfl), (Nat.le_of_ble_eq_true rfl)⟩ (by decide +kernel) (fun q1 => ?_)
  refine ki_ws ((h0, .inr (6, [.null, .int 0, .null, .int 0, .null, .int 0, .null, .null, .int 0, .int 0])) :: [(q1, .inl (G.2.2.1 0, 40, .inl (fun _ => 0)))]) rfl ?_
  refine ki_put (ci := 6) (idx := 11) (T := TX6) (ty := (.array .int)) (v := (.ref q1)) 0 rfl (by decide) (rt_at 165 (by decide +kernel) (by decide +kernel)) rfl (by decide +kernel) rfl rfl (Nat.le_of_ble_eq_true rfl) (by decide +kernel) ?_
  refine ki_ws ((h0, .inr (6, [.ref q1, .int 0, .null, .int 0, .null, .int 0, .null, .null, .int 0, .int 0])) :: [(q1, .inl (G.2.2.1 0, 40, .inl (fun _ => 0)))]) rfl ?_
  refine ki_aload_n (i := 0) (j := 0) (place := 0) (x := h0) (by decide +kernel) rfl rfl ?_
  refine ki_iconst (x := 0) (v := 0) (by decide +kernel) (by decide) ?_
  refine ki_put (ci := 6) (idx := 15) (T := TX6) (ty := .int) (v := (.int 0)) 1 rfl (by decide) (rt_at 166 (by decide +kernel) (by decide +kernel)) rfl (by decide +kernel) rfl rfl (Nat.le_of_ble_eq_true rfl) (by decide +kernel) ?_
  refine ki_ws ((h0, .inr (6, [.ref q1, .int 0, .null, .int 0, .null, .int 0, .null, .null, .int 0, .int 0])) :: [(q1, .inl (G.2.2.1 0, 40, .inl (fun _ => 0)))]) rfl ?_
  refine ki_aload_n (i := 0) (j := 0) (place := 0) (x := h0) (by decide +kernel) rfl rfl ?_
  refine ki_bipush (x := 40) (v := 40) (by decide +kernel) (by decide) ?_
  refine ki_newa (atype := .int) (ty := .int) (a0 := (40, .inl (fun _ => 0))) (N' := 40) (t0 := 0) rfl rfl (fun _ _ h => h) (rt_at 138 (by decide +kernel) (by decide +kernel)) (fun _ => rfl) (by decide) (by decide) (Nat.le_of_ble_eq_true rfl) ⟨(Nat.le_of_ble_eq_true rfl), (Nat.le_of_ble_eq_true rfl)⟩ (by decide +kernel) (fun q2 => ?_)
  refine ki_ws ((h0, .inr (6, [.ref q1, .int 0, .null, .int 0, .null, .int 0, .null, .null, .int 0, .int 0])) :: ([(q1, .inl (G.2.2.1 0, 40, .inl (fun _ => 0)))] ++ [(q2, .inl (G.2.2.1 0, 40, .inl (fun _ => 0)))])) rfl ?_
  refine ki_put (ci := 6) (idx := 19) (T := TX6) (ty := (.array .int)) (v := (.ref q2)) 2 rfl (by decide) (rt_at 167 (by decide +kernel) (by decide +kernel)) rfl (by decide +kernel) rfl rfl (Nat.le_of_ble_eq_true rfl) (by decide +kernel) ?_
  refine ki_ws ((h0, .inr (6, [.ref q1, .int 0, .ref q2, .int 0, .null, .int 0, .null, .null, .int 0, .int 0])) :: ([(q1, .inl (G.2.2.1 0, 40, .inl (fun _ => 0)))] ++ [(q2, .inl (G.2.2.1 0, 40, .inl (fun _ => 0)))])) rfl ?_
  refine ki_aload_n (i := 0) (j := 0) (place := 0) (x := h0) (by decide +kernel) rfl rfl ?_
  refine ki_iconst (x := 0) (v := 0) (by decide +kernel) (by decide) ?_
  refine ki_put (ci := 6) (idx := 22) (T := TX6) (ty := .int) (v := (.int 0)) 3 rfl (by decide) (rt_at 168 (by decide +kernel) (by decide +kernel)) rfl (by decide +kernel) rfl rfl (Nat.le_of_ble_eq_true rfl) (by decide +kernel) ?_
  refine ki_ws ((h0, .inr (6, [.ref q1, .int 0, .ref q2, .int 0, .null, .int 0, .null, .null, .int 0, .int 0])) :: ([(q1, .inl (G.2.2.1 0, 40, .inl (fun _ => 0)))] ++ [(q2, .inl (G.2.2.1 0, 40, .inl (fun _ => 0)))])) rfl ?_
  refine ki_aload_n (i := 0) (j := 0) (place := 0) (x := h0) (by decide +kernel) rfl rfl ?_
  refine ki_bipush (x := 40) (v := 40) (by decide +kernel) (by decide) ?_
  refine ki_newa (atype := .int) (ty := .int) (a0 := (40, .inl (fun _ => 0))) (N' := 40) (t0 := 0) rfl rfl (fun _ _ h => h) (rt_at 138 (by decide +kernel) (by decide +kernel)) (fun _ => rfl) (by decide) (by decide) (Nat.le_of_ble_eq_true rfl) ⟨(Nat.le_of_ble_eq_true rfl), (Nat.le_of_ble_eq_true rfl)⟩ (by decide +kernel) (fun q3 => ?_)
  refine ki_ws ((h0, .inr (6, [.ref q1, .int 0, .ref q2, .int 0, .null, .int 0, .null, .null, .int 0, .int 0])) :: (([(q1, .inl (G.2.2.1 0, 40, .inl (fun _ => 0)))] ++ [(q2, .inl (G.2.2.1 0, 40, .inl (fun _ => 0)))]) ++ [(q3, .inl (G.2.2.1 0, 40, .inl (fun _ => 0)))])) rfl ?_
  refine ki_put (ci := 6) (idx := 25) (T := TX6) (ty := (.array .int)) (v := (.ref q3)) 4 rfl (by decide) (rt_at 169 (by decide +kernel) (by decide +kernel)) rfl (by decide +kernel) rfl rfl (Nat.le_of_ble_eq_true rfl) (by decide +kernel) ?_
  refine ki_ws ((h0, .inr (6, [.ref q1, .int 0, .ref q2, .int 0, .ref q3, .int 0, .null, .null, .int 0, .int 0])) :: (([(q1, .inl (G.2.2.1 0, 40, .inl (fun _ => 0)))] ++ [(q2, .inl (G.2.2.1 0, 40, .inl (fun _ => 0)))]) ++ [(q3, .inl (G.2.2.1 0, 40, .inl (fun _ => 0)))])) rfl ?_
  refine ki_aload_n (i := 0) (j := 0) (place := 0) (x := h0) (by decide +kernel) rfl rfl ?_
  refine ki_iconst (x := 0) (v := 0) (by decide +kernel) (by decide) ?_
  refine ki_put (ci := 6) (idx := 28) (T := TX6) (ty := .int) (v := (.int 0)) 5 rfl (by decide) (rt_at 170 (by decide +kernel) (by decide +kernel)) rfl (by decide +kernel) rfl rfl (Nat.le_of_ble_eq_true rfl) (by decide +kernel) ?_
  refine ki_ws ((h0, .inr (6, [.ref q1, .int 0, .ref q2, .int 0, .ref q3, .int 0, .null, .null, .int 0, .int 0])) :: (([(q1, .inl (G.2.2.1 0, 40, .inl (fun _ => 0)))] ++ [(q2, .inl (G.2.2.1 0, 40, .inl (fun _ => 0)))]) ++ [(q3, .inl (G.2.2.1 0, 40, .inl (fun _ => 0)))])) rfl ?_
  refine ki_aload_n (i := 0) (j := 0) (place := 0) (x := h0) (by decide +kernel) rfl rfl ?_
  refine ki_bipush (x := 40) (v := 40) (by decide +kernel) (by decide) ?_
  refine ki_newa (atype := .int) (ty := .int) (a0 := (40, .inl (fun _ => 0))) (N' := 40) (t0 := 0) rfl rfl (fun _ _ h => h) (rt_at 138 (by decide +kernel) (by decide +kernel)) (fun _ => rfl) (by decide) (by decide) (Nat.le_of_ble_eq_true rfl) ⟨(Nat.le_of_ble_eq_true rfl), (Nat.le_of_ble_eq_true rfl)⟩ (by decide +kernel) (fun q4 => ?_)
  refine ki_ws ((h0, .inr (6, [.ref q1, .int 0, .ref q2, .int 0, .ref q3, .int 0, .null, .null, .int 0, .int 0])) :: ((([(q1, .inl (G.2.2.1 0, 40, .inl (fun _ => 0)))] ++ [(q2, .inl (G.2.2.1 0, 40, .inl (fun _ => 0)))]) ++ [(q3, .inl (G.2.2.1 0, 40, .inl (fun _ => 0)))]) ++ [(q4, .inl (G.2.2.1 0, 40, .inl (fun _ => 0)))])) rfl ?_
  refine ki_put (ci := 6) (idx := 31) (T := TX6) (ty := (.array .int)) (v := (.ref q4)) 6 rfl (by decide) (rt_at 171 (by decide +kernel) (by decide +kernel)) rfl (by decide +kernel) rfl rfl (Nat.le_of_ble_eq_true rfl) (by decide +kernel) ?_
  refine ki_ws ((h0, .inr (6, [.ref q1, .int 0, .ref q2, .int 0, .ref q3, .int 0, .ref q4, .null, .int 0, .int 0])) :: ((([(q1, .inl (G.2.2.1 0, 40, .inl (fun _ => 0)))] ++ [(q2, .inl (G.2.2.1 0, 40, .inl (fun _ => 0)))]) ++ [(q3, .inl (G.2.2.1 0, 40, .inl (fun _ => 0)))]) ++ [(q4, .inl (G.2.2.1 0, 40, .inl (fun _ => 0)))])) rfl ?_
  refine ki_aload_n (i := 0) (j := 0) (place := 0) (x := h0) (by decide +kernel) rfl rfl ?_
  refine ki_bipush (x := 6) (v := 6) (by decide +kernel) (by decide) ?_
  refine ki_newa (atype := .int) (ty := .int) (a0 := (6, .inl (fun _ => 0))) (N' := 6) (t0 := 0) rfl rfl (fun _ _ h => h) (rt_at 138 (by decide +kernel) (by decide +kernel)) (fun _ => rfl) (by decide) (by decide) (Nat.le_of_ble_eq_true rfl) ⟨(Nat.le_of_ble_eq_true rfl), (Nat.le_of_ble_eq_true rfl)⟩ (by decide +kernel) (fun q5 => ?_)
  refine ki_ws ((h0, .inr (6, [.ref q1, .int 0, .ref q2, .int 0, .ref q3, .int 0, .ref q4, .null, .int 0, .int 0])) :: (((([(q1, .inl (G.2.2.1 0, 40, .inl (fun _ => 0)))] ++ [(q2, .inl (G.2.2.1 0, 40, .inl (fun _ => 0)))]) ++ [(q3, .inl (G.2.2.1 0, 40, .inl (fun _ => 0)))]) ++ [(q4, .inl (G.2.2.1 0, 40, .inl (fun _ => 0)))]) ++ [(q5, .inl (G.2.2.1 0, 6, .inl (fun _ => 0)))])) rfl ?_
  refine ki_put (ci := 6) (idx := 34) (T := TX6) (ty := (.array .int)) (v := (.ref q5)) 7 rfl (by decide) (rt_at 172 (by decide +kernel) (by decide +kernel)) rfl (by decide +kernel) rfl rfl (Nat.le_of_ble_eq_true rfl) (by decide +kernel) ?_
  refine ki_ws ((h0, .inr (6, [.ref q1, .int 0, .ref q2, .int 0, .ref q3, .int 0, .ref q4, .ref q5, .int 0, .int 0])) :: (((([(q1, .inl (G.2.2.1 0, 40, .inl (fun _ => 0)))] ++ [(q2, .inl (G.2.2.1 0, 40, .inl (fun _ => 0)))]) ++ [(q3, .inl (G.2.2.1 0, 40, .inl (fun _ => 0)))]) ++ [(q4, .inl (G.2.2.1 0, 40, .inl (fun _ => 0)))]) ++ [(q5, .inl (G.2.2.1 0, 6, .inl (fun _ => 0)))])) rfl ?_
  refine ki_aload_n (i := 0) (j := 0) (place := 0) (x := h0) (by decide +kernel) rfl rfl ?_
  refine ki_iconst (x := 0) (v := 0) (by decide +kernel) (by decide) ?_
  refine ki_put (ci := 6) (idx := 37) (T := TX6) (ty := .int) (v := (.int 0)) 8 rfl (by decide) (rt_at 173 (by decide +kernel) (by decide +kernel)) rfl (by decide +kernel) rfl rfl (Nat.le_of_ble_eq_true rfl) (by decide +kernel) ?_
  refine ki_ws ((h0, .inr (6, [.ref q1, .int 0, .ref q2, .int 0, .ref q3, .int 0, .ref q4, .ref q5, .int 0, .int 0])) :: (((([(q1, .inl (G.2.2.1 0, 40, .inl (fun _ => 0)))] ++ [(q2, .inl (G.2.2.1 0, 40, .inl (fun _ => 0)))]) ++ [(q3, .inl (G.2.2.1 0, 40, .inl (fun _ => 0)))]) ++ [(q4, .inl (G.2.2.1 0, 40, .inl (fun _ => 0)))]) ++ [(q5, .inl (G.2.2.1 0, 6, .inl (fun _ => 0)))])) rfl ?_
  refine ki_aload_n (i := 0) (j := 0) (place := 0) (x := h0) (by decide +kernel) rfl rfl ?_
  refine ki_iconst (x := 0) (v := 0) (by decide +kernel) (by decide) ?_
  refine ki_put (ci := 6) (idx := 40) (T := TX6) (ty := .int) (v := (.int 0)) 9 rfl (by decide) (rt_at 174 (by decide +kernel) (by decide +kernel)) rfl (by decide +kernel) rfl rfl (Nat.le_of_ble_eq_true rfl) (by decide +kernel) ?_
  refine ki_ws ((h0, .inr (6, [.ref q1, .int 0, .ref q2, .int 0, .ref q3, .int 0, .ref q4, .ref q5, .int 0, .int 0])) :: (((([(q1, .inl (G.2.2.1 0, 40, .inl (fun _ => 0)))] ++ [(q2, .inl (G.2.2.1 0, 40, .inl (fun _ => 0)))]) ++ [(q3, .inl (G.2.2.1 0, 40, .inl (fun _ => 0)))]) ++ [(q4, .inl (G.2.2.1 0, 40, .inl (fun _ => 0)))]) ++ [(q5, .inl (G.2.2.1 0, 6, .inl (fun _ => 0)))])) rfl ?_
  exact ki_ret (fun j => [q1, q2, q3, q4, q5].getD j 0) (by rfl) ⟨rfl, rfl⟩ (by decide +kernel)
def kW4 (G : rt_G) (h0 : Nat) (a : Nat → Nat) : va_W := (h0, .inr (4, [.int 0, .int 0, .ref (a 0), .ref (a 1), .ref (a 2)])) :: (([((a 0), .inl (G.2.2.1 0, 40, .inl (fun _ => 0)))] ++ [((a 1), .inl (G.2.2.1 0, 12, .inl (fun _ => 0)))]) ++ [((a 2), .inl (G.2.2.1 0, 12, .inl (fun _ => 0)))])
def kI4 : rt_K := (yX4_init, cX4_init, 1, none)
set_option maxHeartbeats 4000000 in
set_option maxRecDepth 100000 in
theorem cI4 {G : rt_G} {h0 : Nat} : kiCall G ({ frames := 1, cells := 3, slots := 64, locals := 40 } : Room) kI4 3 64 [.ref h0] h0 (.inr (4, [.int 0, .int 0, .null, .null, .null])) [] (kW4 G h0) := by
  refine ki_enter (lv := [(0, .ref h0)]) (by decide +kernel) rfl rfl (Nat.le_of_ble_eq_true rfl) rfl (fun A => ?_)
  refine ki_aload_n (i := 0) (j := 0) (place := 0) (x := h0) (by decide +kernel) rfl rfl ?_
  refine ki_obj (idx := 3) (rt_at 207 (by decide +kernel) (by decide +kernel)) ⟨(Nat.le_of_ble_eq_true rfl), (Nat.le_of_ble_eq_true rfl)⟩ (by decide +kernel) ?_
  refine ki_aload_n (i := 0) (j := 0) (place := 0) (x := h0) (by decide +kernel) rfl rfl ?_
  refine ki_iconst (x := 0) (v := 0) (by decide +kernel) (by decide) ?_
  refine ki_put (ci := 4) (idx := 9) (T := TX4) (ty := .int) (v := (.int 0)) 0 rfl (by decide) (rt_at 208 (by decide +kernel) (by decide +kernel)) rfl (by decide +kernel) rfl rfl (Nat.le_of_ble_eq_true rfl) (by decide +kernel) ?_
  refine ki_ws ((h0, .inr (4, [.int 0, .int 0, .null, .null, .null])) :: []) rfl ?_
  refine ki_aload_n (i := 0) (j := 0) (place := 0) (x := h0) (by decide +kernel) rfl rfl ?_
  refine ki_iconst (x := 0) (v := 0) (by decide +kernel) (by decide) ?_
  refine ki_put (ci := 4) (idx := 15) (T := TX4) (ty := .int) (v := (.int 0)) 1 rfl (by decide) (rt_at 212 (by decide +kernel) (by decide +kernel)) rfl (by decide +kernel) rfl rfl (Nat.le_of_ble_eq_true rfl) (by decide +kernel) ?_
  refine ki_ws ((h0, .inr (4, [.int 0, .int 0, .null, .null, .null])) :: []) rfl ?_
  refine ki_aload_n (i := 0) (j := 0) (place := 0) (x := h0) (by decide +kernel) rfl rfl ?_
  refine ki_bipush (x := 40) (v := 40) (by decide +kernel) (by decide) ?_
  refine ki_newa (atype := .int) (ty := .int) (a0 := (40, .inl (fun _ => 0))) (N' := 40) (t0 := 0) rfl rfl (fun _ _ h => h) (rt_at 138 (by decide +kernel) (by decide +kernel)) (fun _ => rfl) (by decide) (by decide) (Nat.le_of_ble_eq_true rfl) ⟨(Nat.le_of_ble_eq_true rfl), (Nat.le_of_ble_eq_true rfl)⟩ (by decide +kernel) (fun q1 => ?_)
  refine ki_ws ((h0, .inr (4, [.int 0, .int 0, .null, .null, .null])) :: [(q1, .inl (G.2.2.1 0, 40, .inl (fun _ => 0)))]) rfl ?_
  refine ki_put (ci := 4) (idx := 18) (T := TX4) (ty := (.array .int)) (v := (.ref q1)) 2 rfl (by decide) (rt_at 216 (by decide +kernel) (by decide +kernel)) rfl (by decide +kernel) rfl rfl (Nat.le_of_ble_eq_true rfl) (by decide +kernel) ?_
  refine ki_ws ((h0, .inr (4, [.int 0, .int 0, .ref q1, .null, .null])) :: [(q1, .inl (G.2.2.1 0, 40, .inl (fun _ => 0)))]) rfl ?_
  refine ki_aload_n (i := 0) (j := 0) (place := 0) (x := h0) (by decide +kernel) rfl rfl ?_
  refine ki_bipush (x := 12) (v := 12) (by decide +kernel) (by decide) ?_
  refine ki_newa (atype := .int) (ty := .int) (a0 := (12, .inl (fun _ => 0))) (N' := 12) (t0 := 0) rfl rfl (fun _ _ h => h) (rt_at 138 (by decide +kernel) (by decide +kernel)) (fun _ => rfl) (by decide) (by decide) (Nat.le_of_ble_eq_true rfl) ⟨(Nat.le_of_ble_eq_true rfl), (Nat.le_of_ble_eq_true rfl)⟩ (by decide +kernel) (fun q2 => ?_)
  refine ki_ws ((h0, .inr (4, [.int 0, .int 0, .ref q1, .null, .null])) :: ([(q1, .inl (G.2.2.1 0, 40, .inl (fun _ => 0)))] ++ [(q2, .inl (G.2.2.1 0, 12, .inl (fun _ => 0)))])) rfl ?_
  refine ki_put (ci := 4) (idx := 22) (T := TX4) (ty := (.array .int)) (v := (.ref q2)) 3 rfl (by decide) (rt_at 217 (by decide +kernel) (by decide +kernel)) rfl (by decide +kernel) rfl rfl (Nat.le_of_ble_eq_true rfl) (by decide +kernel) ?_
  refine ki_ws ((h0, .inr (4, [.int 0, .int 0, .ref q1, .ref q2, .null])) :: ([(q1, .inl (G.2.2.1 0, 40, .inl (fun _ => 0)))] ++ [(q2, .inl (G.2.2.1 0, 12, .inl (fun _ => 0)))])) rfl ?_
  refine ki_aload_n (i := 0) (j := 0) (place := 0) (x := h0) (by decide +kernel) rfl rfl ?_
  refine ki_bipush (x := 12) (v := 12) (by decide +kernel) (by decide) ?_
  refine ki_newa (atype := .int) (ty := .int) (a0 := (12, .inl (fun _ => 0))) (N' := 12) (t0 := 0) rfl rfl (fun _ _ h => h) (rt_at 138 (by decide +kernel) (by decide +kernel)) (fun _ => rfl) (by decide) (by decide) (Nat.le_of_ble_eq_true rfl) ⟨(Nat.le_of_ble_eq_true rfl), (Nat.le_of_ble_eq_true rfl)⟩ (by decide +kernel) (fun q3 => ?_)
  refine ki_ws ((h0, .inr (4, [.int 0, .int 0, .ref q1, .ref q2, .null])) :: (([(q1, .inl (G.2.2.1 0, 40, .inl (fun _ => 0)))] ++ [(q2, .inl (G.2.2.1 0, 12, .inl (fun _ => 0)))]) ++ [(q3, .inl (G.2.2.1 0, 12, .inl (fun _ => 0)))])) rfl ?_
  refine ki_put (ci := 4) (idx := 25) (T := TX4) (ty := (.array .int)) (v := (.ref q3)) 4 rfl (by decide) (rt_at 222 (by decide +kernel) (by decide +kernel)) rfl (by decide +kernel) rfl rfl (Nat.le_of_ble_eq_true rfl) (by decide +kernel) ?_
  refine ki_ws ((h0, .inr (4, [.int 0, .int 0, .ref q1, .ref q2, .ref q3])) :: (([(q1, .inl (G.2.2.1 0, 40, .inl (fun _ => 0)))] ++ [(q2, .inl (G.2.2.1 0, 12, .inl (fun _ => 0)))]) ++ [(q3, .inl (G.2.2.1 0, 12, .inl (fun _ => 0)))])) rfl ?_
  exact ki_ret (fun j => [q1, q2, q3].getD j 0) (by rfl) ⟨rfl, rfl⟩ (by decide +kernel)
