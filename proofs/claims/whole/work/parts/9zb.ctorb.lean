/-! CONSTRUCTORS, one by one -/
def kL2 (h0 : Nat) (a : Nat → Nat) : List Value := [.ref (a 0), .int 0, .int 0, .ref (a 4), .ref (a 5), .ref (a 6), .int 0, .int 0, .int 0]
def kW2 (G : rt_G) (h0 : Nat) (a : Nat → Nat) : va_W := (h0, .inr (2, [.ref (a 0), .int 0, .int 0, .ref (a 4), .ref (a 5), .ref (a 6), .int 0, .int 0, .int 0])) :: (((kW4 G (a 0) (fun j => a (1 + j)) ++ [((a 4), .inl (G.2.2.1 0, 8, .inl (fun _ => 0)))]) ++ [((a 5), .inl (G.2.2.1 0, 12, .inl (fun _ => 0)))]) ++ [((a 6), .inl (G.2.2.1 0, 12, .inl (fun _ => 0)))])
def kI2 : rt_K := (yX2_init, cX2_init, 1, none)
set_option maxHeartbeats 4000000 in
set_option maxRecDepth 100000 in
theorem cI2 {G : rt_G} {h0 : Nat} : kiCall G ({ frames := 2, cells := 7, slots := 101, locals := 120 } : Room) kI2 7 101 [.ref h0] h0 (.inr (2, [.null, .int 0, .int 0, .null, .null, .null, .int 0, .int 0, .int 0])) [] (kW2 G h0) := by
  refine ki_enter (lv := [(0, .ref h0)]) (by decide +kernel) rfl rfl (Nat.le_of_ble_eq_true rfl) rfl (fun A => ?_)
  refine ki_aload_n (i := 0) (j := 0) (place := 0) (x := h0) (by decide +kernel) rfl rfl ?_
  refine ki_obj (idx := 3) (rt_at 201 (by decide +kernel) (by decide +kernel)) ⟨(Nat.le_of_ble_eq_true rfl), (Nat.le_of_ble_eq_true rfl)⟩ (by decide +kernel) ?_
  refine ki_aload_n (i := 0) (j := 0) (place := 0) (x := h0) (by decide +kernel) rfl rfl ?_
  refine ki_new (ci := 4) (N := 5) (idx := 9) (CC := RX4) (T := TX4) (fs := [.int 0, .int 0, .null, .null, .null]) rfl tyX4 tyX4_ok (fun j hj => match j, hj with | 0, _ => rfl | 1, _ => rfl | 2, _ => rfl | 3, _ => rfl | 4, _ => rfl | j + 5, h => absurd h (by omega)) (rt_at 202 (by decide +kernel) (by decide +kernel)) (rt_at 203 (by decide +kernel) (by decide +kernel)) (rt_at 85 (by decide +kernel) (by decide +kernel)) ⟨(Nat.le_of_ble_eq_true rfl), (Nat.le_of_ble_eq_true rfl)⟩ (by decide +kernel) (fun q1 => ?_)
  refine ki_dup rfl (by decide +kernel) ?_
  refine ki_callN (host := RX11) (R' := ({ frames := 1, cells := 3, slots := 64, locals := 40 } : Room)) (K' := kI4) (kc := 3) (ns := 64) (idx := 11) (nn := 0) (q0 := q1) (as := []) (rest := [.ref q1, .ref h0]) (ex' := []) (fin' := (kW4 G q1)) rfl rfl (rt_at 206 (by decide +kernel) (by decide +kernel)) (rt_at 85 (by decide +kernel) (by decide +kernel)) (by decide +kernel) (rt_at 205 (by decide +kernel) (by decide +kernel)) ⟨(by decide +kernel), (by decide +kernel), (by decide +kernel)⟩ ⟨rfl, rfl, (Nat.le_of_ble_eq_true rfl), (Nat.le_of_ble_eq_true rfl)⟩ rfl (Nat.le_of_ble_eq_true rfl) ⟨(Nat.le_of_ble_eq_true rfl), (Nat.le_of_ble_eq_true rfl)⟩ (by decide +kernel) cI4 (fun i q hi => by simp at hi) (fun aq1 => ?_)
  refine ki_ws ((h0, .inr (2, [.null, .int 0, .int 0, .null, .null, .null, .int 0, .int 0, .int 0])) :: kW4 G q1 aq1) rfl ?_
  refine ki_put (ci := 2) (idx := 12) (T := TX2) (ty := (.object "RoadsWithTides$Moment")) (v := (.ref q1)) 0 rfl (by decide) (rt_at 238 (by decide +kernel) (by decide +kernel)) rfl (by decide +kernel) rfl rfl (Nat.le_of_ble_eq_true rfl) (by decide +kernel) ?_
  refine ki_ws ((h0, .inr (2, [.ref q1, .int 0, .int 0, .null, .null, .null, .int 0, .int 0, .int 0])) :: kW4 G q1 aq1) rfl ?_
  refine ki_aload_n (i := 0) (j := 0) (place := 0) (x := h0) (by decide +kernel) rfl rfl ?_
  refine ki_iconst (x := 0) (v := 0) (by decide +kernel) (by decide) ?_
  refine ki_put (ci := 2) (idx := 18) (T := TX2) (ty := .int) (v := (.int 0)) 1 rfl (by decide) (rt_at 242 (by decide +kernel) (by decide +kernel)) rfl (by decide +kernel) rfl rfl (Nat.le_of_ble_eq_true rfl) (by decide +kernel) ?_
  refine ki_ws ((h0, .inr (2, [.ref q1, .int 0, .int 0, .null, .null, .null, .int 0, .int 0, .int 0])) :: kW4 G q1 aq1) rfl ?_
  refine ki_aload_n (i := 0) (j := 0) (place := 0) (x := h0) (by decide +kernel) rfl rfl ?_
  refine ki_iconst (x := 0) (v := 0) (by decide +kernel) (by decide) ?_
  refine ki_put (ci := 2) (idx := 22) (T := TX2) (ty := .int) (v := (.int 0)) 2 rfl (by decide) (rt_at 246 (by decide +kernel) (by decide +kernel)) rfl (by decide +kernel) rfl rfl (Nat.le_of_ble_eq_true rfl) (by decide +kernel) ?_
  refine ki_ws ((h0, .inr (2, [.ref q1, .int 0, .int 0, .null, .null, .null, .int 0, .int 0, .int 0])) :: kW4 G q1 aq1) rfl ?_
  refine ki_aload_n (i := 0) (j := 0) (place := 0) (x := h0) (by decide +kernel) rfl rfl ?_
  refine ki_bipush (x := 8) (v := 8) (by decide +kernel) (by decide) ?_
  refine ki_newa (atype := .int) (ty := .int) (a0 := (8, .inl (fun _ => 0))) (N' := 8) (t0 := 0) rfl rfl (fun _ _ h => h) (rt_at 138 (by decide +kernel) (by decide +kernel)) (fun _ => rfl) (by decide) (by decide) (Nat.le_of_ble_eq_true rfl) ⟨(Nat.le_of_ble_eq_true rfl), (Nat.le_of_ble_eq_true rfl)⟩ (by decide +kernel) (fun q2 => ?_)
  refine ki_ws ((h0, .inr (2, [.ref q1, .int 0, .int 0, .null, .null, .null, .int 0, .int 0, .int 0])) :: (kW4 G q1 aq1 ++ [(q2, .inl (G.2.2.1 0, 8, .inl (fun _ => 0)))])) rfl ?_
  refine ki_put (ci := 2) (idx := 25) (T := TX2) (ty := (.array .int)) (v := (.ref q2)) 3 rfl (by decide) (rt_at 250 (by decide +kernel) (by decide +kernel)) rfl (by decide +kernel) rfl rfl (Nat.le_of_ble_eq_true rfl) (by decide +kernel) ?_
  refine ki_ws ((h0, .inr (2, [.ref q1, .int 0, .int 0, .ref q2, .null, .null, .int 0, .int 0, .int 0])) :: (kW4 G q1 aq1 ++ [(q2, .inl (G.2.2.1 0, 8, .inl (fun _ => 0)))])) rfl ?_
  refine ki_aload_n (i := 0) (j := 0) (place := 0) (x := h0) (by decide +kernel) rfl rfl ?_
  refine ki_bipush (x := 12) (v := 12) (by decide +kernel) (by decide) ?_
  refine ki_newa (atype := .int) (ty := .int) (a0 := (12, .inl (fun _ => 0))) (N' := 12) (t0 := 0) rfl rfl (fun _ _ h => h) (rt_at 138 (by decide +kernel) (by decide +kernel)) (fun _ => rfl) (by decide) (by decide) (Nat.le_of_ble_eq_true rfl) ⟨(Nat.le_of_ble_eq_true rfl), (Nat.le_of_ble_eq_true rfl)⟩ (by decide +kernel) (fun q3 => ?_)
  refine ki_ws ((h0, .inr (2, [.ref q1, .int 0, .int 0, .ref q2, .null, .null, .int 0, .int 0, .int 0])) :: ((kW4 G q1 aq1 ++ [(q2, .inl (G.2.2.1 0, 8, .inl (fun _ => 0)))]) ++ [(q3, .inl (G.2.2.1 0, 12, .inl (fun _ => 0)))])) rfl ?_
  refine ki_put (ci := 2) (idx := 29) (T := TX2) (ty := (.array .int)) (v := (.ref q3)) 4 rfl (by decide) (rt_at 253 (by decide +kernel) (by decide +kernel)) rfl (by decide +kernel) rfl rfl (Nat.le_of_ble_eq_true rfl) (by decide +kernel) ?_
  refine ki_ws ((h0, .inr (2, [.ref q1, .int 0, .int 0, .ref q2, .ref q3, .null, .int 0, .int 0, .int 0])) :: ((kW4 G q1 aq1 ++ [(q2, .inl (G.2.2.1 0, 8, .inl (fun _ => 0)))]) ++ [(q3, .inl (G.2.2.1 0, 12, .inl (fun _ => 0)))])) rfl ?_
  refine ki_aload_n (i := 0) (j := 0) (place := 0) (x := h0) (by decide +kernel) rfl rfl ?_
  refine ki_bipush (x := 12) (v := 12) (by decide +kernel) (by decide) ?_
  refine ki_newa (atype := .int) (ty := .int) (a0 := (12, .inl (fun _ => 0))) (N' := 12) (t0 := 0) rfl rfl (fun _ _ h => h) (rt_at 138 (by decide +kernel) (by decide +kernel)) (fun _ => rfl) (by decide) (by decide) (Nat.le_of_ble_eq_true rfl) ⟨(Nat.le_of_ble_eq_true rfl), (Nat.le_of_ble_eq_true rfl)⟩ (by decide +kernel) (fun q4 => ?_)
  refine ki_ws ((h0, .inr (2, [.ref q1, .int 0, .int 0, .ref q2, .ref q3, .null, .int 0, .int 0, .int 0])) :: (((kW4 G q1 aq1 ++ [(q2, .inl (G.2.2.1 0, 8, .inl (fun _ => 0)))]) ++ [(q3, .inl (G.2.2.1 0, 12, .inl (fun _ => 0)))]) ++ [(q4, .inl (G.2.2.1 0, 12, .inl (fun _ => 0)))])) rfl ?_
  refine ki_put (ci := 2) (idx := 32) (T := TX2) (ty := (.array .int)) (v := (.ref q4)) 5 rfl (by decide) (rt_at 256 (by decide +kernel) (by decide +kernel)) rfl (by decide +kernel) rfl rfl (Nat.le_of_ble_eq_true rfl) (by decide +kernel) ?_
  refine ki_ws ((h0, .inr (2, [.ref q1, .int 0, .int 0, .ref q2, .ref q3, .ref q4, .int 0, .int 0, .int 0])) :: (((kW4 G q1 aq1 ++ [(q2, .inl (G.2.2.1 0, 8, .inl (fun _ => 0)))]) ++ [(q3, .inl (G.2.2.1 0, 12, .inl (fun _ => 0)))]) ++ [(q4, .inl (G.2.2.1 0, 12, .inl (fun _ => 0)))])) rfl ?_
  refine ki_aload_n (i := 0) (j := 0) (place := 0) (x := h0) (by decide +kernel) rfl rfl ?_
  refine ki_iconst (x := 0) (v := 0) (by decide +kernel) (by decide) ?_
  refine ki_put (ci := 2) (idx := 35) (T := TX2) (ty := .int) (v := (.int 0)) 6 rfl (by decide) (rt_at 260 (by decide +kernel) (by decide +kernel)) rfl (by decide +kernel) rfl rfl (Nat.le_of_ble_eq_true rfl) (by decide +kernel) ?_
  refine ki_ws ((h0, .inr (2, [.ref q1, .int 0, .int 0, .ref q2, .ref q3, .ref q4, .int 0, .int 0, .int 0])) :: (((kW4 G q1 aq1 ++ [(q2, .inl (G.2.2.1 0, 8, .inl (fun _ => 0)))]) ++ [(q3, .inl (G.2.2.1 0, 12, .inl (fun _ => 0)))]) ++ [(q4, .inl (G.2.2.1 0, 12, .inl (fun _ => 0)))])) rfl ?_
  refine ki_aload_n (i := 0) (j := 0) (place := 0) (x := h0) (by decide +kernel) rfl rfl ?_
  refine ki_iconst (x := 0) (v := 0) (by decide +kernel) (by decide) ?_
  refine ki_put (ci := 2) (idx := 38) (T := TX2) (ty := .int) (v := (.int 0)) 7 rfl (by decide) (rt_at 261 (by decide +kernel) (by decide +kernel)) rfl (by decide +kernel) rfl rfl (Nat.le_of_ble_eq_true rfl) (by decide +kernel) ?_
  refine ki_ws ((h0, .inr (2, [.ref q1, .int 0, .int 0, .ref q2, .ref q3, .ref q4, .int 0, .int 0, .int 0])) :: (((kW4 G q1 aq1 ++ [(q2, .inl (G.2.2.1 0, 8, .inl (fun _ => 0)))]) ++ [(q3, .inl (G.2.2.1 0, 12, .inl (fun _ => 0)))]) ++ [(q4, .inl (G.2.2.1 0, 12, .inl (fun _ => 0)))])) rfl ?_
  refine ki_aload_n (i := 0) (j := 0) (place := 0) (x := h0) (by decide +kernel) rfl rfl ?_
  refine ki_iconst (x := 0) (v := 0) (by decide +kernel) (by decide) ?_
  refine ki_put (ci := 2) (idx := 41) (T := TX2) (ty := .int) (v := (.int 0)) 8 rfl (by decide) (rt_at 262 (by decide +kernel) (by decide +kernel)) rfl (by decide +kernel) rfl rfl (Nat.le_of_ble_eq_true rfl) (by decide +kernel) ?_
  refine ki_ws ((h0, .inr (2, [.ref q1, .int 0, .int 0, .ref q2, .ref q3, .ref q4, .int 0, .int 0, .int 0])) :: (((kW4 G q1 aq1 ++ [(q2, .inl (G.2.2.1 0, 8, .inl (fun _ => 0)))]) ++ [(q3, .inl (G.2.2.1 0, 12, .inl (fun _ => 0)))]) ++ [(q4, .inl (G.2.2.1 0, 12, .inl (fun _ => 0)))])) rfl ?_
  exact ki_ret (fun j => [q1, aq1 0, aq1 1, aq1 2, q2, q3, q4].getD j 0) (by unfold kW2 kW4; rfl) ⟨rfl, rfl⟩ (by decide +kernel)
def kL9 (la pr se ru : Nat) : List Value := [.ref la, .ref pr, .ref se, .ref ru, .int 6, .int 0, .int 0, .int 0, .int 0, .int 0, .int 0, .int 0]
def kW9 (G : rt_G) (h0 la pr se ru : Nat) : va_W := (h0, .inr (9, [.ref la, .ref pr, .ref se, .ref ru, .int 6, .int 0, .int 0, .int 0, .int 0, .int 0, .int 0, .int 0])) :: []
def kI9 : rt_K := (yX9_init, cX9_init, 4, none)
set_option maxHeartbeats 4000000 in
set_option maxRecDepth 100000 in
theorem cI9 {G : rt_G} {h0 la pr se ru : Nat} {fl : List Value} (hf : fl[0]? = some (.ref pr)) : kiCall G ({ frames := 1, cells := 0, slots := 0, locals := 40 } : Room) kI9 0 0 [.ref h0, .ref la, .ref se, .ref ru] h0 (.inr (9, [.null, .null, .null, .null, .int 0, .int 0, .int 0, .int 0, .int 0, .int 0, .int 0, .int 0])) [(la, .inr (2, fl))] (fun _ => kW9 G h0 la pr se ru) := by
  refine ki_enter (lv := [(0, .ref h0), (1, .ref la), (2, .ref se), (3, .ref ru)]) (by decide +kernel) rfl rfl (Nat.le_of_ble_eq_true rfl) rfl (fun A => ?_)
  refine ki_aload_n (i := 0) (j := 0) (place := 0) (x := h0) (by decide +kernel) rfl rfl ?_
  refine ki_obj (idx := 3) (rt_at 287 (by decide +kernel) (by decide +kernel)) ⟨(Nat.le_of_ble_eq_true rfl), (Nat.le_of_ble_eq_true rfl)⟩ (by decide +kernel) ?_
  refine ki_aload_n (i := 0) (j := 0) (place := 0) (x := h0) (by decide +kernel) rfl rfl ?_
  refine ki_bipush (x := 6) (v := 6) (by decide +kernel) (by decide) ?_
  refine ki_put (ci := 9) (idx := 9) (T := TX9) (ty := .int) (v := (.int 6)) 4 rfl (by decide) (rt_at 296 (by decide +kernel) (by decide +kernel)) rfl (by decide +kernel) rfl rfl (Nat.le_of_ble_eq_true rfl) (by decide +kernel) ?_
  refine ki_ws ((h0, .inr (9, [.null, .null, .null, .null, .int 6, .int 0, .int 0, .int 0, .int 0, .int 0, .int 0, .int 0])) :: []) rfl ?_
  refine ki_aload_n (i := 0) (j := 0) (place := 0) (x := h0) (by decide +kernel) rfl rfl ?_
  refine ki_iconst (x := 0) (v := 0) (by decide +kernel) (by decide) ?_
  refine ki_put (ci := 9) (idx := 15) (T := TX9) (ty := .int) (v := (.int 0)) 5 rfl (by decide) (rt_at 298 (by decide +kernel) (by decide +kernel)) rfl (by decide +kernel) rfl rfl (Nat.le_of_ble_eq_true rfl) (by decide +kernel) ?_
  refine ki_ws ((h0, .inr (9, [.null, .null, .null, .null, .int 6, .int 0, .int 0, .int 0, .int 0, .int 0, .int 0, .int 0])) :: []) rfl ?_
  refine ki_aload_n (i := 0) (j := 0) (place := 0) (x := h0) (by decide +kernel) rfl rfl ?_
  refine ki_iconst (x := 0) (v := 0) (by decide +kernel) (by decide) ?_
  refine ki_put (ci := 9) (idx := 18) (T := TX9) (ty := .int) (v := (.int 0)) 6 rfl (by decide) (rt_at 300 (by decide +kernel) (by decide +kernel)) rfl (by decide +kernel) rfl rfl (Nat.le_of_ble_eq_true rfl) (by decide +kernel) ?_
  refine ki_ws ((h0, .inr (9, [.null, .null, .null, .null, .int 6, .int 0, .int 0, .int 0, .int 0, .int 0, .int 0, .int 0])) :: []) rfl ?_
  refine ki_aload_n (i := 0) (j := 0) (place := 0) (x := h0) (by decide +kernel) rfl rfl ?_
  refine ki_iconst (x := 0) (v := 0) (by decide +kernel) (by decide) ?_
  refine ki_put (ci := 9) (idx := 21) (T := TX9) (ty := .int) (v := (.int 0)) 7 rfl (by decide) (rt_at 302 (by decide +kernel) (by decide +kernel)) rfl (by decide +kernel) rfl rfl (Nat.le_of_ble_eq_true rfl) (by decide +kernel) ?_
  refine ki_ws ((h0, .inr (9, [.null, .null, .null, .null, .int 6, .int 0, .int 0, .int 0, .int 0, .int 0, .int 0, .int 0])) :: []) rfl ?_
  refine ki_aload_n (i := 0) (j := 0) (place := 0) (x := h0) (by decide +kernel) rfl rfl ?_
  refine ki_iconst (x := 0) (v := 0) (by decide +kernel) (by decide) ?_
  refine ki_put (ci := 9) (idx := 24) (T := TX9) (ty := .int) (v := (.int 0)) 8 rfl (by decide) (rt_at 304 (by decide +kernel) (by decide +kernel)) rfl (by decide +kernel) rfl rfl (Nat.le_of_ble_eq_true rfl) (by decide +kernel) ?_
  refine ki_ws ((h0, .inr (9, [.null, .null, .null, .null, .int 6, .int 0, .int 0, .int 0, .int 0, .int 0, .int 0, .int 0])) :: []) rfl ?_
  refine ki_aload_n (i := 0) (j := 0) (place := 0) (x := h0) (by decide +kernel) rfl rfl ?_
  refine ki_iconst (x := 0) (v := 0) (by decide +kernel) (by decide) ?_
  refine ki_put (ci := 9) (idx := 27) (T := TX9) (ty := .int) (v := (.int 0)) 9 rfl (by decide) (rt_at 306 (by decide +kernel) (by decide +kernel)) rfl (by decide +kernel) rfl rfl (Nat.le_of_ble_eq_true rfl) (by decide +kernel) ?_
  refine ki_ws ((h0, .inr (9, [.null, .null, .null, .null, .int 6, .int 0, .int 0, .int 0, .int 0, .int 0, .int 0, .int 0])) :: []) rfl ?_
  refine ki_aload_n (i := 0) (j := 0) (place := 0) (x := h0) (by decide +kernel) rfl rfl ?_
  refine ki_iconst (x := 0) (v := 0) (by decide +kernel) (by decide) ?_
  refine ki_put (ci := 9) (idx := 30) (T := TX9) (ty := .int) (v := (.int 0)) 10 rfl (by decide) (rt_at 308 (by decide +kernel) (by decide +kernel)) rfl (by decide +kernel) rfl rfl (Nat.le_of_ble_eq_true rfl) (by decide +kernel) ?_
  refine ki_ws ((h0, .inr (9, [.null, .null, .null, .null, .int 6, .int 0, .int 0, .int 0, .int 0, .int 0, .int 0, .int 0])) :: []) rfl ?_
  refine ki_aload_n (i := 0) (j := 0) (place := 0) (x := h0) (by decide +kernel) rfl rfl ?_
  refine ki_iconst (x := 0) (v := 0) (by decide +kernel) (by decide) ?_
  refine ki_put (ci := 9) (idx := 33) (T := TX9) (ty := .int) (v := (.int 0)) 11 rfl (by decide) (rt_at 310 (by decide +kernel) (by decide +kernel)) rfl (by decide +kernel) rfl rfl (Nat.le_of_ble_eq_true rfl) (by decide +kernel) ?_
  refine ki_ws ((h0, .inr (9, [.null, .null, .null, .null, .int 6, .int 0, .int 0, .int 0, .int 0, .int 0, .int 0, .int 0])) :: []) rfl ?_
  refine ki_aload_n (i := 0) (j := 0) (place := 0) (x := h0) (by decide +kernel) rfl rfl ?_
  refine ki_aload_n (i := 1) (j := 1) (place := 1) (x := la) (by decide +kernel) rfl rfl ?_
  refine ki_put (ci := 9) (idx := 36) (T := TX9) (ty := (.object "RoadsWithTides$Land")) (v := (.ref la)) 0 rfl (by decide) (rt_at 288 (by decide +kernel) (by decide +kernel)) rfl (by decide +kernel) rfl rfl (Nat.le_of_ble_eq_true rfl) (by decide +kernel) ?_
  refine ki_ws ((h0, .inr (9, [.ref la, .null, .null, .null, .int 6, .int 0, .int 0, .int 0, .int 0, .int 0, .int 0, .int 0])) :: []) rfl ?_
  refine ki_aload_n (i := 0) (j := 0) (place := 0) (x := h0) (by decide +kernel) rfl rfl ?_
  refine ki_aload_n (i := 1) (j := 1) (place := 1) (x := la) (by decide +kernel) rfl rfl ?_
  refine ki_getx (ci := 2) (idx := 40) (T := TX2) (q0 := 0) (v := .ref pr) 0 rfl (by decide) (rt_at 239 (by decide +kernel) (by decide +kernel)) rfl hf (by decide +kernel) ?_
  refine ki_put (ci := 9) (idx := 46) (T := TX9) (ty := (.object "RoadsWithTides$Moment")) (v := (.ref pr)) 1 rfl (by decide) (rt_at 291 (by decide +kernel) (by decide +kernel)) rfl (by decide +kernel) rfl rfl (Nat.le_of_ble_eq_true rfl) (by decide +kernel) ?_
  refine ki_ws ((h0, .inr (9, [.ref la, .ref pr, .null, .null, .int 6, .int 0, .int 0, .int 0, .int 0, .int 0, .int 0, .int 0])) :: []) rfl ?_
  refine ki_aload_n (i := 0) (j := 0) (place := 0) (x := h0) (by decide +kernel) rfl rfl ?_
  refine ki_aload_n (i := 2) (j := 2) (place := 2) (x := se) (by decide +kernel) rfl rfl ?_
  refine ki_put (ci := 9) (idx := 47) (T := TX9) (ty := (.object "RoadsWithTides$Tide")) (v := (.ref se)) 2 rfl (by decide) (rt_at 293 (by decide +kernel) (by decide +kernel)) rfl (by decide +kernel) rfl rfl (Nat.le_of_ble_eq_true rfl) (by decide +kernel) ?_
  refine ki_ws ((h0, .inr (9, [.ref la, .ref pr, .ref se, .null, .int 6, .int 0, .int 0, .int 0, .int 0, .int 0, .int 0, .int 0])) :: []) rfl ?_
  refine ki_aload_n (i := 0) (j := 0) (place := 0) (x := h0) (by decide +kernel) rfl rfl ?_
  refine ki_aload_n (i := 3) (j := 3) (place := 3) (x := ru) (by decide +kernel) rfl rfl ?_
  refine ki_put (ci := 9) (idx := 51) (T := TX9) (ty := (.object "RoadsWithTides$Rule")) (v := (.ref ru)) 3 rfl (by decide) (rt_at 295 (by decide +kernel) (by decide +kernel)) rfl (by decide +kernel) rfl rfl (Nat.le_of_ble_eq_true rfl) (by decide +kernel) ?_
  refine ki_ws ((h0, .inr (9, [.ref la, .ref pr, .ref se, .ref ru, .int 6, .int 0, .int 0, .int 0, .int 0, .int 0, .int 0, .int 0])) :: []) rfl ?_
  exact ki_ret (fun j => [0].getD j 0) (by rfl) ⟨rfl, rfl⟩ (by decide +kernel)
def kW0 (G : rt_G) (h0 : Nat) (a : Nat → Nat) : va_W := (h0, .inr (0, [.ref (a 0), .ref (a 1), .ref (a 2), .int 0, .int 0])) :: (([((a 0), .inl (G.2.2.1 0, 60, .inl (fun _ => 0)))] ++ [((a 1), .inl (G.2.2.1 0, 60, .inl (fun _ => 0)))]) ++ [((a 2), .inl (G.2.2.1 0, 60, .inl (fun _ => 0)))])
def kI0 : rt_K := (yX0_init, cX0_init, 1, none)
set_option maxHeartbeats 4000000 in
set_option maxRecDepth 100000 in
theorem cI0 {G : rt_G} {h0 : Nat} : kiCall G ({ frames := 1, cells := 3, slots := 180, locals := 40 } : Room) kI0 3 180 [.ref h0] h0 (.inr (0, [.null, .null, .null, .int 0, .int 0])) [] (kW0 G h0) := by
  refine ki_enter (lv := [(0, .ref h0)]) (by decide +kernel) rfl rfl (Nat.le_of_ble_eq_true rfl) rfl (fun A => ?_)
  refine ki_aload_n (i := 0) (j := 0) (place := 0) (x := h0) (by decide +kernel) rfl rfl ?_
  refine ki_obj (idx := 3) (rt_at 372 (by decide +kernel) (by decide +kernel)) ⟨(Nat.le_of_ble_eq_true rfl), (Nat.le_of_ble_eq_true rfl)⟩ (by decide +kernel) ?_
  refine ki_aload_n (i := 0) (j := 0) (place := 0) (x := h0) (by decide +kernel) rfl rfl ?_
  refine ki_bipush (x := 60) (v := 60) (by decide +kernel) (by decide) ?_
  refine ki_newa (atype := .int) (ty := .int) (a0 := (60, .inl (fun _ => 0))) (N' := 60) (t0 := 0) rfl rfl (fun _ _ h => h) (rt_at 138 (by decide +kernel) (by decide +kernel)) (fun _ => rfl) (by decide) (by decide) (Nat.le_of_ble_eq_true rfl) ⟨(Nat.le_of_ble_eq_true rfl), (Nat.le_of_ble_eq_true rfl)⟩ (by decide +kernel) (fun q1 => ?_)
  refine ki_ws ((h0, .inr (0, [.null, .null, .null, .int 0, .int 0])) :: [(q1, .inl (G.2.2.1 0, 60, .inl (fun _ => 0)))]) rfl ?_
  refine ki_put (ci := 0) (idx := 11) (T := TX0) (ty := (.array .int)) (v := (.ref q1)) 0 rfl (by decide) (rt_at 373 (by decide +kernel) (by decide +kernel)) rfl (by decide +kernel) rfl rfl (Nat.le_of_ble_eq_true rfl) (by decide +kernel) ?_
  refine ki_ws ((h0, .inr (0, [.ref q1, .null, .null, .int 0, .int 0])) :: [(q1, .inl (G.2.2.1 0, 60, .inl (fun _ => 0)))]) rfl ?_
  refine ki_aload_n (i := 0) (j := 0) (place := 0) (x := h0) (by decide +kernel) rfl rfl ?_
  refine ki_bipush (x := 60) (v := 60) (by decide +kernel) (by decide) ?_
  refine ki_newa (atype := .int) (ty := .int) (a0 := (60, .inl (fun _ => 0))) (N' := 60) (t0 := 0) rfl rfl (fun _ _ h => h) (rt_at 138 (by decide +kernel) (by decide +kernel)) (fun _ => rfl) (by decide) (by decide) (Nat.le_of_ble_eq_true rfl) ⟨(Nat.le_of_ble_eq_true rfl), (Nat.le_of_ble_eq_true rfl)⟩ (by decide +kernel) (fun q2 => ?_)
  refine ki_ws ((h0, .inr (0, [.ref q1, .null, .null, .int 0, .int 0])) :: ([(q1, .inl (G.2.2.1 0, 60, .inl (fun _ => 0)))] ++ [(q2, .inl (G.2.2.1 0, 60, .inl (fun _ => 0)))])) rfl ?_
  refine ki_put (ci := 0) (idx := 15) (T := TX0) (ty := (.array .int)) (v := (.ref q2)) 1 rfl (by decide) (rt_at 374 (by decide +kernel) (by decide +kernel)) rfl (by decide +kernel) rfl rfl (Nat.le_of_ble_eq_true rfl) (by decide +kernel) ?_
  refine ki_ws ((h0, .inr (0, [.ref q1, .ref q2, .null, .int 0, .int 0])) :: ([(q1, .inl (G.2.2.1 0, 60, .inl (fun _ => 0)))] ++ [(q2, .inl (G.2.2.1 0, 60, .inl (fun _ => 0)))])) rfl ?_
  refine ki_aload_n (i := 0) (j := 0) (place := 0) (x := h0) (by decide +kernel) rfl rfl ?_
  refine ki_bipush (x := 60) (v := 60) (by decide +kernel) (by decide) ?_
  refine ki_newa (atype := .int) (ty := .int) (a0 := (60, .inl (fun _ => 0))) (N' := 60) (t0 := 0) rfl rfl (fun _ _ h => h) (rt_at 138 (by decide +kernel) (by decide +kernel)) (fun _ => rfl) (by decide) (by decide) (Nat.le_of_ble_eq_true rfl) ⟨(Nat.le_of_ble_eq_true rfl), (Nat.le_of_ble_eq_true rfl)⟩ (by decide +kernel) (fun q3 => ?_)
  refine ki_ws ((h0, .inr (0, [.ref q1, .ref q2, .null, .int 0, .int 0])) :: (([(q1, .inl (G.2.2.1 0, 60, .inl (fun _ => 0)))] ++ [(q2, .inl (G.2.2.1 0, 60, .inl (fun _ => 0)))]) ++ [(q3, .inl (G.2.2.1 0, 60, .inl (fun _ => 0)))])) rfl ?_
  refine ki_put (ci := 0) (idx := 18) (T := TX0) (ty := (.array .int)) (v := (.ref q3)) 2 rfl (by decide) (rt_at 375 (by decide +kernel) (by decide +kernel)) rfl (by decide +kernel) rfl rfl (Nat.le_of_ble_eq_true rfl) (by decide +kernel) ?_
  refine ki_ws ((h0, .inr (0, [.ref q1, .ref q2, .ref q3, .int 0, .int 0])) :: (([(q1, .inl (G.2.2.1 0, 60, .inl (fun _ => 0)))] ++ [(q2, .inl (G.2.2.1 0, 60, .inl (fun _ => 0)))]) ++ [(q3, .inl (G.2.2.1 0, 60, .inl (fun _ => 0)))])) rfl ?_
  refine ki_aload_n (i := 0) (j := 0) (place := 0) (x := h0) (by decide +kernel) rfl rfl ?_
  refine ki_iconst (x := 0) (v := 0) (by decide +kernel) (by decide) ?_
  refine ki_put (ci := 0) (idx := 21) (T := TX0) (ty := .int) (v := (.int 0)) 3 rfl (by decide) (rt_at 376 (by decide +kernel) (by decide +kernel)) rfl (by decide +kernel) rfl rfl (Nat.le_of_ble_eq_true rfl) (by decide +kernel) ?_
  refine ki_ws ((h0, .inr (0, [.ref q1, .ref q2, .ref q3, .int 0, .int 0])) :: (([(q1, .inl (G.2.2.1 0, 60, .inl (fun _ => 0)))] ++ [(q2, .inl (G.2.2.1 0, 60, .inl (fun _ => 0)))]) ++ [(q3, .inl (G.2.2.1 0, 60, .inl (fun _ => 0)))])) rfl ?_
  refine ki_aload_n (i := 0) (j := 0) (place := 0) (x := h0) (by decide +kernel) rfl rfl ?_
  refine ki_iconst (x := 0) (v := 0) (by decide +kernel) (by decide) ?_
  refine ki_put (ci := 0) (idx := 25) (T := TX0) (ty := .int) (v := (.int 0)) 4 rfl (by decide) (rt_at 377 (by decide +kernel) (by decide +kernel)) rfl (by decide +kernel) rfl rfl (Nat.le_of_ble_eq_true rfl) (by decide +kernel) ?_
  refine ki_ws ((h0, .inr (0, [.ref q1, .ref q2, .ref q3, .int 0, .int 0])) :: (([(q1, .inl (G.2.2.1 0, 60, .inl (fun _ => 0)))] ++ [(q2, .inl (G.2.2.1 0, 60, .inl (fun _ => 0)))]) ++ [(q3, .inl (G.2.2.1 0, 60, .inl (fun _ => 0)))])) rfl ?_
  exact ki_ret (fun j => [q1, q2, q3].getD j 0) (by rfl) ⟨rfl, rfl⟩ (by decide +kernel)
def kW10 (G : rt_G) (h0 tu la : Nat) (a : Nat → Nat) : va_W := (h0, .inr (10, [.ref tu, .ref la, .ref (a 0), .ref (a 1), .ref (a 2), .ref (a 3), .ref (a 4), .ref (a 5), .ref (a 6), .ref (a 7), .int 0, .int 1000000])) :: ((((((([((a 0), .inl (G.2.2.1 0, 24, .inl (fun _ => 0)))] ++ [((a 1), .inl (G.2.2.1 0, 2928, .inl (fun _ => 0)))]) ++ [((a 2), .inl (G.2.2.1 0, 12, .inl (fun _ => 0)))]) ++ [((a 3), .inl (G.2.2.1 0, 8, .inl (fun _ => 0)))]) ++ [((a 4), .inl (G.2.2.1 0, 8, .inl (fun _ => 0)))]) ++ [((a 5), .inl (G.2.2.1 0, 6, .inl (fun _ => 0)))]) ++ [((a 6), .inl (G.2.2.1 0, 6, .inl (fun _ => 0)))]) ++ [((a 7), .inl (G.2.2.1 0, 56, .inl (fun _ => 0)))])
def kI10 : rt_K := (yX10_init, cX10_init, 2, none)
set_option maxHeartbeats 4000000 in
set_option maxRecDepth 100000 in
theorem cI10 {G : rt_G} {h0 tu la : Nat} {fl : List Value} (hf : fl[0]? = some (.ref la)) : kiCall G ({ frames := 1, cells := 8, slots := 3048, locals := 40 } : Room) kI10 8 3048 [.ref h0, .ref tu] h0 (.inr (10, [.null, .null, .null, .null, .null, .null, .null, .null, .null, .null, .int 0, .int 0])) [(tu, .inr (9, fl))] (kW10 G h0 tu la) := by
  refine ki_enter (lv := [(0, .ref h0), (1, .ref tu)]) (by decide +kernel) rfl rfl (Nat.le_of_ble_eq_true rfl) rfl (fun A => ?_)
  refine ki_aload_n (i := 0) (j := 0) (place := 0) (x := h0) (by decide +kernel) rfl rfl ?_
  refine ki_obj (idx := 3) (rt_at 395 (by decide +kernel) (by decide +kernel)) ⟨(Nat.le_of_ble_eq_true rfl), (Nat.le_of_ble_eq_true rfl)⟩ (by decide +kernel) ?_
  refine ki_aload_n (i := 0) (j := 0) (place := 0) (x := h0) (by decide +kernel) rfl rfl ?_
  refine ki_bipush (x := 24) (v := 24) (by decide +kernel) (by decide) ?_
  refine ki_newa (atype := .int) (ty := .int) (a0 := (24, .inl (fun _ => 0))) (N' := 24) (t0 := 0) rfl rfl (fun _ _ h => h) (rt_at 138 (by decide +kernel) (by decide +kernel)) (fun _ => rfl) (by decide) (by decide) (Nat.le_of_ble_eq_true rfl) ⟨(Nat.le_of_ble_eq_true rfl), (Nat.le_of_ble_eq_true rfl)⟩ (by decide +kernel) (fun q1 => ?_)
  refine ki_ws ((h0, .inr (10, [.null, .null, .null, .null, .null, .null, .null, .null, .null, .null, .int 0, .int 0])) :: [(q1, .inl (G.2.2.1 0, 24, .inl (fun _ => 0)))]) rfl ?_
  refine ki_put (ci := 10) (idx := 9) (T := TX10) (ty := (.array .int)) (v := (.ref q1)) 2 rfl (by decide) (rt_at 399 (by decide +kernel) (by decide +kernel)) rfl (by decide +kernel) rfl rfl (Nat.le_of_ble_eq_true rfl) (by decide +kernel) ?_
  refine ki_ws ((h0, .inr (10, [.null, .null, .ref q1, .null, .null, .null, .null, .null, .null, .null, .int 0, .int 0])) :: [(q1, .inl (G.2.2.1 0, 24, .inl (fun _ => 0)))]) rfl ?_
  refine ki_aload_n (i := 0) (j := 0) (place := 0) (x := h0) (by decide +kernel) rfl rfl ?_
  refine ki_sipush (x := 2928) (v := 2928) (by decide +kernel) (by decide) ?_
  refine ki_newa (atype := .int) (ty := .int) (a0 := (2928, .inl (fun _ => 0))) (N' := 2928) (t0 := 0) rfl rfl (fun _ _ h => h) (rt_at 138 (by decide +kernel) (by decide +kernel)) (fun _ => rfl) (by decide) (by decide) (Nat.le_of_ble_eq_true rfl) ⟨(Nat.le_of_ble_eq_true rfl), (Nat.le_of_ble_eq_true rfl)⟩ (by decide +kernel) (fun q2 => ?_)
  refine ki_ws ((h0, .inr (10, [.null, .null, .ref q1, .null, .null, .null, .null, .null, .null, .null, .int 0, .int 0])) :: ([(q1, .inl (G.2.2.1 0, 24, .inl (fun _ => 0)))] ++ [(q2, .inl (G.2.2.1 0, 2928, .inl (fun _ => 0)))])) rfl ?_
  refine ki_put (ci := 10) (idx := 15) (T := TX10) (ty := (.array .int)) (v := (.ref q2)) 3 rfl (by decide) (rt_at 400 (by decide +kernel) (by decide +kernel)) rfl (by decide +kernel) rfl rfl (Nat.le_of_ble_eq_true rfl) (by decide +kernel) ?_
  refine ki_ws ((h0, .inr (10, [.null, .null, .ref q1, .ref q2, .null, .null, .null, .null, .null, .null, .int 0, .int 0])) :: ([(q1, .inl (G.2.2.1 0, 24, .inl (fun _ => 0)))] ++ [(q2, .inl (G.2.2.1 0, 2928, .inl (fun _ => 0)))])) rfl ?_
  refine ki_aload_n (i := 0) (j := 0) (place := 0) (x := h0) (by decide +kernel) rfl rfl ?_
  refine ki_bipush (x := 12) (v := 12) (by decide +kernel) (by decide) ?_
  refine ki_newa (atype := .int) (ty := .int) (a0 := (12, .inl (fun _ => 0))) (N' := 12) (t0 := 0) rfl rfl (fun _ _ h => h) (rt_at 138 (by decide +kernel) (by decide +kernel)) (fun _ => rfl) (by decide) (by decide) (Nat.le_of_ble_eq_true rfl) ⟨(Nat.le_of_ble_eq_true rfl), (Nat.le_of_ble_eq_true rfl)⟩ (by decide +kernel) (fun q3 => ?_)
  refine ki_ws ((h0, .inr (10, [.null, .null, .ref q1, .ref q2, .null, .null, .null, .null, .null, .null, .int 0, .int 0])) :: (([(q1, .inl (G.2.2.1 0, 24, .inl (fun _ => 0)))] ++ [(q2, .inl (G.2.2.1 0, 2928, .inl (fun _ => 0)))]) ++ [(q3, .inl (G.2.2.1 0, 12, .inl (fun _ => 0)))])) rfl ?_
  refine ki_put (ci := 10) (idx := 18) (T := TX10) (ty := (.array .int)) (v := (.ref q3)) 4 rfl (by decide) (rt_at 401 (by decide +kernel) (by decide +kernel)) rfl (by decide +kernel) rfl rfl (Nat.le_of_ble_eq_true rfl) (by decide +kernel) ?_
  refine ki_ws ((h0, .inr (10, [.null, .null, .ref q1, .ref q2, .ref q3, .null, .null, .null, .null, .null, .int 0, .int 0])) :: (([(q1, .inl (G.2.2.1 0, 24, .inl (fun _ => 0)))] ++ [(q2, .inl (G.2.2.1 0, 2928, .inl (fun _ => 0)))]) ++ [(q3, .inl (G.2.2.1 0, 12, .inl (fun _ => 0)))])) rfl ?_
  refine ki_aload_n (i := 0) (j := 0) (place := 0) (x := h0) (by decide +kernel) rfl rfl ?_
  refine ki_bipush (x := 8) (v := 8) (by decide +kernel) (by decide) ?_
  refine ki_newa (atype := .int) (ty := .int) (a0 := (8, .inl (fun _ => 0))) (N' := 8) (t0 := 0) rfl rfl (fun _ _ h => h) (rt_at 138 (by decide +kernel) (by decide +kernel)) (fun _ => rfl) (by decide) (by decide) (Nat.le_of_ble_eq_true rfl) ⟨(Nat.le_of_ble_eq_true rfl), (Nat.le_of_ble_eq_true rfl)⟩ (by decide +kernel) (fun q4 => ?_)
  refine ki_ws ((h0, .inr (10, [.null, .null, .ref q1, .ref q2, .ref q3, .null, .null, .null, .null, .null, .int 0, .int 0])) :: ((([(q1, .inl (G.2.2.1 0, 24, .inl (fun _ => 0)))] ++ [(q2, .inl (G.2.2.1 0, 2928, .inl (fun _ => 0)))]) ++ [(q3, .inl (G.2.2.1 0, 12, .inl (fun _ => 0)))]) ++ [(q4, .inl (G.2.2.1 0, 8, .inl (fun _ => 0)))])) rfl ?_
  refine ki_put (ci := 10) (idx := 21) (T := TX10) (ty := (.array .int)) (v := (.ref q4)) 5 rfl (by decide) (rt_at 402 (by decide +kernel) (by decide +kernel)) rfl (by decide +kernel) rfl rfl (Nat.le_of_ble_eq_true rfl) (by decide +kernel) ?_
  refine ki_ws ((h0, .inr (10, [.null, .null, .ref q1, .ref q2, .ref q3, .ref q4, .null, .null, .null, .null, .int 0, .int 0])) :: ((([(q1, .inl (G.2.2.1 0, 24, .inl (fun _ => 0)))] ++ [(q2, .inl (G.2.2.1 0, 2928, .inl (fun _ => 0)))]) ++ [(q3, .inl (G.2.2.1 0, 12, .inl (fun _ => 0)))]) ++ [(q4, .inl (G.2.2.1 0, 8, .inl (fun _ => 0)))])) rfl ?_
  refine ki_aload_n (i := 0) (j := 0) (place := 0) (x := h0) (by decide +kernel) rfl rfl ?_
  refine ki_bipush (x := 8) (v := 8) (by decide +kernel) (by decide) ?_
  refine ki_newa (atype := .int) (ty := .int) (a0 := (8, .inl (fun _ => 0))) (N' := 8) (t0 := 0) rfl rfl (fun _ _ h => h) (rt_at 138 (by decide +kernel) (by decide +kernel)) (fun _ => rfl) (by decide) (by decide) (Nat.le_of_ble_eq_true rfl) ⟨(Nat.le_of_ble_eq_true rfl), (Nat.le_of_ble_eq_true rfl)⟩ (by decide +kernel) (fun q5 => ?_)
  refine ki_ws ((h0, .inr (10, [.null, .null, .ref q1, .ref q2, .ref q3, .ref q4, .null, .null, .null, .null, .int 0, .int 0])) :: (((([(q1, .inl (G.2.2.1 0, 24, .inl (fun _ => 0)))] ++ [(q2, .inl (G.2.2.1 0, 2928, .inl (fun _ => 0)))]) ++ [(q3, .inl (G.2.2.1 0, 12, .inl (fun _ => 0)))]) ++ [(q4, .inl (G.2.2.1 0, 8, .inl (fun _ => 0)))]) ++ [(q5, .inl (G.2.2.1 0, 8, .inl (fun _ => 0)))])) rfl ?_
  refine ki_put (ci := 10) (idx := 24) (T := TX10) (ty := (.array .int)) (v := (.ref q5)) 6 rfl (by decide) (rt_at 404 (by decide +kernel) (by decide +kernel)) rfl (by decide +kernel) rfl rfl (Nat.le_of_ble_eq_true rfl) (by decide +kernel) ?_
  refine ki_ws ((h0, .inr (10, [.null, .null, .ref q1, .ref q2, .ref q3, .ref q4, .ref q5, .null, .null, .null, .int 0, .int 0])) :: (((([(q1, .inl (G.2.2.1 0, 24, .inl (fun _ => 0)))] ++ [(q2, .inl (G.2.2.1 0, 2928, .inl (fun _ => 0)))]) ++ [(q3, .inl (G.2.2.1 0, 12, .inl (fun _ => 0)))]) ++ [(q4, .inl (G.2.2.1 0, 8, .inl (fun _ => 0)))]) ++ [(q5, .inl (G.2.2.1 0, 8, .inl (fun _ => 0)))])) rfl ?_
  refine ki_aload_n (i := 0) (j := 0) (place := 0) (x := h0) (by decide +kernel) rfl rfl ?_
  refine ki_bipush (x := 6) (v := 6) (by decide +kernel) (by decide) ?_
  refine ki_newa (atype := .int) (ty := .int) (a0 := (6, .inl (fun _ => 0))) (N' := 6) (t0 := 0) rfl rfl (fun _ _ h => h) (rt_at 138 (by decide +kernel) (by decide +kernel)) (fun _ => rfl) (by decide) (by decide) (Nat.le_of_ble_eq_true rfl) ⟨(Nat.le_of_ble_eq_true rfl), (Nat.le_of_ble_eq_true rfl)⟩ (by decide +kernel) (fun q6 => ?_)
  refine ki_ws ((h0, .inr (10, [.null, .null, .ref q1, .ref q2, .ref q3, .ref q4, .ref q5, .null, .null, .null, .int 0, .int 0])) :: ((((([(q1, .inl (G.2.2.1 0, 24, .inl (fun _ => 0)))] ++ [(q2, .inl (G.2.2.1 0, 2928, .inl (fun _ => 0)))]) ++ [(q3, .inl (G.2.2.1 0, 12, .inl (fun _ => 0)))]) ++ [(q4, .inl (G.2.2.1 0, 8, .inl (fun _ => 0)))]) ++ [(q5, .inl (G.2.2.1 0, 8, .inl (fun _ => 0)))]) ++ [(q6, .inl (G.2.2.1 0, 6, .inl (fun _ => 0)))])) rfl ?_
  refine ki_put (ci := 10) (idx := 27) (T := TX10) (ty := (.array .int)) (v := (.ref q6)) 7 rfl (by decide) (rt_at 405 (by decide +kernel) (by decide +kernel)) rfl (by decide +kernel) rfl rfl (Nat.le_of_ble_eq_true rfl) (by decide +kernel) ?_
  refine ki_ws ((h0, .inr (10, [.null, .null, .ref q1, .ref q2, .ref q3, .ref q4, .ref q5, .ref q6, .null, .null, .int 0, .int 0])) :: ((((([(q1, .inl (G.2.2.1 0, 24, .inl (fun _ => 0)))] ++ [(q2, .inl (G.2.2.1 0, 2928, .inl (fun _ => 0)))]) ++ [(q3, .inl (G.2.2.1 0, 12, .inl (fun _ => 0)))]) ++ [(q4, .inl (G.2.2.1 0, 8, .inl (fun _ => 0)))]) ++ [(q5, .inl (G.2.2.1 0, 8, .inl (fun _ => 0)))]) ++ [(q6, .inl (G.2.2.1 0, 6, .inl (fun _ => 0)))])) rfl ?_
  refine ki_aload_n (i := 0) (j := 0) (place := 0) (x := h0) (by decide +kernel) rfl rfl ?_
  refine ki_bipush (x := 6) (v := 6) (by decide +kernel) (by decide) ?_
  refine ki_newa (atype := .int) (ty := .int) (a0 := (6, .inl (fun _ => 0))) (N' := 6) (t0 := 0) rfl rfl (fun _ _ h => h) (rt_at 138 (by decide +kernel) (by decide +kernel)) (fun _ => rfl) (by decide) (by decide) (Nat.le_of_ble_eq_true rfl) ⟨(Nat.le_of_ble_eq_true rfl), (Nat.le_of_ble_eq_true rfl)⟩ (by decide +kernel) (fun q7 => ?_)
  refine ki_ws ((h0, .inr (10, [.null, .null, .ref q1, .ref q2, .ref q3, .ref q4, .ref q5, .ref q6, .null, .null, .int 0, .int 0])) :: (((((([(q1, .inl (G.2.2.1 0, 24, .inl (fun _ => 0)))] ++ [(q2, .inl (G.2.2.1 0, 2928, .inl (fun _ => 0)))]) ++ [(q3, .inl (G.2.2.1 0, 12, .inl (fun _ => 0)))]) ++ [(q4, .inl (G.2.2.1 0, 8, .inl (fun _ => 0)))]) ++ [(q5, .inl (G.2.2.1 0, 8, .inl (fun _ => 0)))]) ++ [(q6, .inl (G.2.2.1 0, 6, .inl (fun _ => 0)))]) ++ [(q7, .inl (G.2.2.1 0, 6, .inl (fun _ => 0)))])) rfl ?_
  refine ki_put (ci := 10) (idx := 30) (T := TX10) (ty := (.array .int)) (v := (.ref q7)) 8 rfl (by decide) (rt_at 407 (by decide +kernel) (by decide +kernel)) rfl (by decide +kernel) rfl rfl (Nat.le_of_ble_eq_true rfl) (by decide +kernel) ?_
  refine ki_ws ((h0, .inr (10, [.null, .null, .ref q1, .ref q2, .ref q3, .ref q4, .ref q5, .ref q6, .ref q7, .null, .int 0, .int 0])) :: (((((([(q1, .inl (G.2.2.1 0, 24, .inl (fun _ => 0)))] ++ [(q2, .inl (G.2.2.1 0, 2928, .inl (fun _ => 0)))]) ++ [(q3, .inl (G.2.2.1 0, 12, .inl (fun _ => 0)))]) ++ [(q4, .inl (G.2.2.1 0, 8, .inl (fun _ => 0)))]) ++ [(q5, .inl (G.2.2.1 0, 8, .inl (fun _ => 0)))]) ++ [(q6, .inl (G.2.2.1 0, 6, .inl (fun _ => 0)))]) ++ [(q7, .inl (G.2.2.1 0, 6, .inl (fun _ => 0)))])) rfl ?_
  refine ki_aload_n (i := 0) (j := 0) (place := 0) (x := h0) (by decide +kernel) rfl rfl ?_
  refine ki_bipush (x := 56) (v := 56) (by decide +kernel) (by decide) ?_
  refine ki_newa (atype := .int) (ty := .int) (a0 := (56, .inl (fun _ => 0))) (N' := 56) (t0 := 0) rfl rfl (fun _ _ h => h) (rt_at 138 (by decide +kernel) (by decide +kernel)) (fun _ => rfl) (by decide) (by decide) (Nat.le_of_ble_eq_true rfl) ⟨(Nat.le_of_ble_eq_true rfl), (Nat.le_of_ble_eq_true rfl)⟩ (by decide +kernel) (fun q8 => ?_)
  refine ki_ws ((h0, .inr (10, [.null, .null, .ref q1, .ref q2, .ref q3, .ref q4, .ref q5, .ref q6, .ref q7, .null, .int 0, .int 0])) :: ((((((([(q1, .inl (G.2.2.1 0, 24, .inl (fun _ => 0)))] ++ [(q2, .inl (G.2.2.1 0, 2928, .inl (fun _ => 0)))]) ++ [(q3, .inl (G.2.2.1 0, 12, .inl (fun _ => 0)))]) ++ [(q4, .inl (G.2.2.1 0, 8, .inl (fun _ => 0)))]) ++ [(q5, .inl (G.2.2.1 0, 8, .inl (fun _ => 0)))]) ++ [(q6, .inl (G.2.2.1 0, 6, .inl (fun _ => 0)))]) ++ [(q7, .inl (G.2.2.1 0, 6, .inl (fun _ => 0)))]) ++ [(q8, .inl (G.2.2.1 0, 56, .inl (fun _ => 0)))])) rfl ?_
  refine ki_put (ci := 10) (idx := 33) (T := TX10) (ty := (.array .int)) (v := (.ref q8)) 9 rfl (by decide) (rt_at 408 (by decide +kernel) (by decide +kernel)) rfl (by decide +kernel) rfl rfl (Nat.le_of_ble_eq_true rfl) (by decide +kernel) ?_
  refine ki_ws ((h0, .inr (10, [.null, .null, .ref q1, .ref q2, .ref q3, .ref q4, .ref q5, .ref q6, .ref q7, .ref q8, .int 0, .int 0])) :: ((((((([(q1, .inl (G.2.2.1 0, 24, .inl (fun _ => 0)))] ++ [(q2, .inl (G.2.2.1 0, 2928, .inl (fun _ => 0)))]) ++ [(q3, .inl (G.2.2.1 0, 12, .inl (fun _ => 0)))]) ++ [(q4, .inl (G.2.2.1 0, 8, .inl (fun _ => 0)))]) ++ [(q5, .inl (G.2.2.1 0, 8, .inl (fun _ => 0)))]) ++ [(q6, .inl (G.2.2.1 0, 6, .inl (fun _ => 0)))]) ++ [(q7, .inl (G.2.2.1 0, 6, .inl (fun _ => 0)))]) ++ [(q8, .inl (G.2.2.1 0, 56, .inl (fun _ => 0)))])) rfl ?_
  refine ki_aload_n (i := 0) (j := 0) (place := 0) (x := h0) (by decide +kernel) rfl rfl ?_
  refine ki_iconst (x := 0) (v := 0) (by decide +kernel) (by decide) ?_
  refine ki_put (ci := 10) (idx := 36) (T := TX10) (ty := .int) (v := (.int 0)) 10 rfl (by decide) (rt_at 409 (by decide +kernel) (by decide +kernel)) rfl (by decide +kernel) rfl rfl (Nat.le_of_ble_eq_true rfl) (by decide +kernel) ?_
  refine ki_ws ((h0, .inr (10, [.null, .null, .ref q1, .ref q2, .ref q3, .ref q4, .ref q5, .ref q6, .ref q7, .ref q8, .int 0, .int 0])) :: ((((((([(q1, .inl (G.2.2.1 0, 24, .inl (fun _ => 0)))] ++ [(q2, .inl (G.2.2.1 0, 2928, .inl (fun _ => 0)))]) ++ [(q3, .inl (G.2.2.1 0, 12, .inl (fun _ => 0)))]) ++ [(q4, .inl (G.2.2.1 0, 8, .inl (fun _ => 0)))]) ++ [(q5, .inl (G.2.2.1 0, 8, .inl (fun _ => 0)))]) ++ [(q6, .inl (G.2.2.1 0, 6, .inl (fun _ => 0)))]) ++ [(q7, .inl (G.2.2.1 0, 6, .inl (fun _ => 0)))]) ++ [(q8, .inl (G.2.2.1 0, 56, .inl (fun _ => 0)))])) rfl ?_
  refine ki_aload_n (i := 0) (j := 0) (place := 0) (x := h0) (by decide +kernel) rfl rfl ?_
  refine ki_ldc (x := 40) (v := 1000000) (rt_at 396 (by decide +kernel) (by decide +kernel)) (by decide +kernel) ?_
  refine ki_put (ci := 10) (idx := 41) (T := TX10) (ty := .int) (v := (.int 1000000)) 11 rfl (by decide) (rt_at 410 (by decide +kernel) (by decide +kernel)) rfl (by decide +kernel) rfl rfl (Nat.le_of_ble_eq_true rfl) (by decide +kernel) ?_
  refine ki_ws ((h0, .inr (10, [.null, .null, .ref q1, .ref q2, .ref q3, .ref q4, .ref q5, .ref q6, .ref q7, .ref q8, .int 0, .int 1000000])) :: ((((((([(q1, .inl (G.2.2.1 0, 24, .inl (fun _ => 0)))] ++ [(q2, .inl (G.2.2.1 0, 2928, .inl (fun _ => 0)))]) ++ [(q3, .inl (G.2.2.1 0, 12, .inl (fun _ => 0)))]) ++ [(q4, .inl (G.2.2.1 0, 8, .inl (fun _ => 0)))]) ++ [(q5, .inl (G.2.2.1 0, 8, .inl (fun _ => 0)))]) ++ [(q6, .inl (G.2.2.1 0, 6, .inl (fun _ => 0)))]) ++ [(q7, .inl (G.2.2.1 0, 6, .inl (fun _ => 0)))]) ++ [(q8, .inl (G.2.2.1 0, 56, .inl (fun _ => 0)))])) rfl ?_
  refine ki_aload_n (i := 0) (j := 0) (place := 0) (x := h0) (by decide +kernel) rfl rfl ?_
  refine ki_aload_n (i := 1) (j := 1) (place := 1) (x := tu) (by decide +kernel) rfl rfl ?_
  refine ki_put (ci := 10) (idx := 44) (T := TX10) (ty := (.object "RoadsWithTides$Turns")) (v := (.ref tu)) 0 rfl (by decide) (rt_at 397 (by decide +kernel) (by decide +kernel)) rfl (by decide +kernel) rfl rfl (Nat.le_of_ble_eq_true rfl) (by decide +kernel) ?_
  refine ki_ws ((h0, .inr (10, [.ref tu, .null, .ref q1, .ref q2, .ref q3, .ref q4, .ref q5, .ref q6, .ref q7, .ref q8, .int 0, .int 1000000])) :: ((((((([(q1, .inl (G.2.2.1 0, 24, .inl (fun _ => 0)))] ++ [(q2, .inl (G.2.2.1 0, 2928, .inl (fun _ => 0)))]) ++ [(q3, .inl (G.2.2.1 0, 12, .inl (fun _ => 0)))]) ++ [(q4, .inl (G.2.2.1 0, 8, .inl (fun _ => 0)))]) ++ [(q5, .inl (G.2.2.1 0, 8, .inl (fun _ => 0)))]) ++ [(q6, .inl (G.2.2.1 0, 6, .inl (fun _ => 0)))]) ++ [(q7, .inl (G.2.2.1 0, 6, .inl (fun _ => 0)))]) ++ [(q8, .inl (G.2.2.1 0, 56, .inl (fun _ => 0)))])) rfl ?_
  refine ki_aload_n (i := 0) (j := 0) (place := 0) (x := h0) (by decide +kernel) rfl rfl ?_
  refine ki_aload_n (i := 1) (j := 1) (place := 1) (x := tu) (by decide +kernel) rfl rfl ?_
  refine ki_getx (ci := 9) (idx := 48) (T := TX9) (q0 := 0) (v := .ref la) 0 rfl (by decide) (rt_at 289 (by decide +kernel) (by decide +kernel)) rfl hf (by decide +kernel) ?_
  refine ki_put (ci := 10) (idx := 54) (T := TX10) (ty := (.object "RoadsWithTides$Land")) (v := (.ref la)) 1 rfl (by decide) (rt_at 398 (by decide +kernel) (by decide +kernel)) rfl (by decide +kernel) rfl rfl (Nat.le_of_ble_eq_true rfl) (by decide +kernel) ?_
  refine ki_ws ((h0, .inr (10, [.ref tu, .ref la, .ref q1, .ref q2, .ref q3, .ref q4, .ref q5, .ref q6, .ref q7, .ref q8, .int 0, .int 1000000])) :: ((((((([(q1, .inl (G.2.2.1 0, 24, .inl (fun _ => 0)))] ++ [(q2, .inl (G.2.2.1 0, 2928, .inl (fun _ => 0)))]) ++ [(q3, .inl (G.2.2.1 0, 12, .inl (fun _ => 0)))]) ++ [(q4, .inl (G.2.2.1 0, 8, .inl (fun _ => 0)))]) ++ [(q5, .inl (G.2.2.1 0, 8, .inl (fun _ => 0)))]) ++ [(q6, .inl (G.2.2.1 0, 6, .inl (fun _ => 0)))]) ++ [(q7, .inl (G.2.2.1 0, 6, .inl (fun _ => 0)))]) ++ [(q8, .inl (G.2.2.1 0, 56, .inl (fun _ => 0)))])) rfl ?_
  exact ki_ret (fun j => [q1, q2, q3, q4, q5, q6, q7, q8].getD j 0) (by rfl) ⟨rfl, rfl⟩ (by decide +kernel)
def kW3 (G : rt_G) (h0 : Nat) (a : Nat → Nat) : va_W := (h0, .inr (3, [.ref (a 0), .ref (a 1), .int 0, .ref (a 2), .int 0, .int 0, .int 0])) :: (([((a 0), .inl (G.2.2.1 0, 10, .inl (fun _ => 0)))] ++ [((a 1), .inl (G.2.2.1 0, 10, .inl (fun _ => 0)))]) ++ [((a 2), .inl (G.2.2.1 3, 24, .inr (.inl (fun _ => 0))))])
def kI3 : rt_K := (yX3_init, cX3_init, 1, none)
set_option maxHeartbeats 4000000 in
set_option maxRecDepth 100000 in
theorem cI3 {G : rt_G} {h0 : Nat} : kiCall G ({ frames := 1, cells := 3, slots := 44, locals := 40 } : Room) kI3 3 44 [.ref h0] h0 (.inr (3, [.null, .null, .int 0, .null, .int 0, .int 0, .int 0])) [] (kW3 G h0) := by
  refine ki_enter (lv := [(0, .ref h0)]) (by decide +kernel) rfl rfl (Nat.le_of_ble_eq_true rfl) rfl (fun A => ?_)
  refine ki_aload_n (i := 0) (j := 0) (place := 0) (x := h0) (by decide +kernel) rfl rfl ?_
  refine ki_obj (idx := 1) (rt_at 441 (by decide +kernel) (by decide +kernel)) ⟨(Nat.le_of_ble_eq_true rfl), (Nat.le_of_ble_eq_true rfl)⟩ (by decide +kernel) ?_
  refine ki_aload_n (i := 0) (j := 0) (place := 0) (x := h0) (by decide +kernel) rfl rfl ?_
  refine ki_bipush (x := 10) (v := 10) (by decide +kernel) (by decide) ?_
  refine ki_newa (atype := .int) (ty := .int) (a0 := (10, .inl (fun _ => 0))) (N' := 10) (t0 := 0) rfl rfl (fun _ _ h => h) (rt_at 138 (by decide +kernel) (by decide +kernel)) (fun _ => rfl) (by decide) (by decide) (Nat.le_of_ble_eq_true rfl) ⟨(Nat.le_of_ble_eq_true rfl), (Nat.le_of_ble_eq_true rfl)⟩ (by decide +kernel) (fun q1 => ?_)
  refine ki_ws ((h0, .inr (3, [.null, .null, .int 0, .null, .int 0, .int 0, .int 0])) :: [(q1, .inl (G.2.2.1 0, 10, .inl (fun _ => 0)))]) rfl ?_
  refine ki_put (ci := 3) (idx := 9) (T := TX3) (ty := (.array .int)) (v := (.ref q1)) 0 rfl (by decide) (rt_at 442 (by decide +kernel) (by decide +kernel)) rfl (by decide +kernel) rfl rfl (Nat.le_of_ble_eq_true rfl) (by decide +kernel) ?_
  refine ki_ws ((h0, .inr (3, [.ref q1, .null, .int 0, .null, .int 0, .int 0, .int 0])) :: [(q1, .inl (G.2.2.1 0, 10, .inl (fun _ => 0)))]) rfl ?_
  refine ki_aload_n (i := 0) (j := 0) (place := 0) (x := h0) (by decide +kernel) rfl rfl ?_
  refine ki_bipush (x := 10) (v := 10) (by decide +kernel) (by decide) ?_
  refine ki_newa (atype := .int) (ty := .int) (a0 := (10, .inl (fun _ => 0))) (N' := 10) (t0 := 0) rfl rfl (fun _ _ h => h) (rt_at 138 (by decide +kernel) (by decide +kernel)) (fun _ => rfl) (by decide) (by decide) (Nat.le_of_ble_eq_true rfl) ⟨(Nat.le_of_ble_eq_true rfl), (Nat.le_of_ble_eq_true rfl)⟩ (by decide +kernel) (fun q2 => ?_)
  refine ki_ws ((h0, .inr (3, [.ref q1, .null, .int 0, .null, .int 0, .int 0, .int 0])) :: ([(q1, .inl (G.2.2.1 0, 10, .inl (fun _ => 0)))] ++ [(q2, .inl (G.2.2.1 0, 10, .inl (fun _ => 0)))])) rfl ?_
  refine ki_put (ci := 3) (idx := 13) (T := TX3) (ty := (.array .int)) (v := (.ref q2)) 1 rfl (by decide) (rt_at 443 (by decide +kernel) (by decide +kernel)) rfl (by decide +kernel) rfl rfl (Nat.le_of_ble_eq_true rfl) (by decide +kernel) ?_
  refine ki_ws ((h0, .inr (3, [.ref q1, .ref q2, .int 0, .null, .int 0, .int 0, .int 0])) :: ([(q1, .inl (G.2.2.1 0, 10, .inl (fun _ => 0)))] ++ [(q2, .inl (G.2.2.1 0, 10, .inl (fun _ => 0)))])) rfl ?_
  refine ki_aload_n (i := 0) (j := 0) (place := 0) (x := h0) (by decide +kernel) rfl rfl ?_
  refine ki_iconst (x := 0) (v := 0) (by decide +kernel) (by decide) ?_
  refine ki_put (ci := 3) (idx := 16) (T := TX3) (ty := .int) (v := (.int 0)) 2 rfl (by decide) (rt_at 444 (by decide +kernel) (by decide +kernel)) rfl (by decide +kernel) rfl rfl (Nat.le_of_ble_eq_true rfl) (by decide +kernel) ?_
  refine ki_ws ((h0, .inr (3, [.ref q1, .ref q2, .int 0, .null, .int 0, .int 0, .int 0])) :: ([(q1, .inl (G.2.2.1 0, 10, .inl (fun _ => 0)))] ++ [(q2, .inl (G.2.2.1 0, 10, .inl (fun _ => 0)))])) rfl ?_
  refine ki_aload_n (i := 0) (j := 0) (place := 0) (x := h0) (by decide +kernel) rfl rfl ?_
  refine ki_bipush (x := 24) (v := 24) (by decide +kernel) (by decide) ?_
  refine ki_newa (atype := .long) (ty := .long) (a0 := (24, .inr (.inl (fun _ => 0)))) (N' := 24) (t0 := 3) rfl rfl (fun _ _ h => h) (rt_at 469 (by decide +kernel) (by decide +kernel)) (fun _ => rfl) (by decide) (by decide) (Nat.le_of_ble_eq_true rfl) ⟨(Nat.le_of_ble_eq_true rfl), (Nat.le_of_ble_eq_true rfl)⟩ (by decide +kernel) (fun q3 => ?_)
  refine ki_ws ((h0, .inr (3, [.ref q1, .ref q2, .int 0, .null, .int 0, .int 0, .int 0])) :: (([(q1, .inl (G.2.2.1 0, 10, .inl (fun _ => 0)))] ++ [(q2, .inl (G.2.2.1 0, 10, .inl (fun _ => 0)))]) ++ [(q3, .inl (G.2.2.1 3, 24, .inr (.inl (fun _ => 0))))])) rfl ?_
  refine ki_put (ci := 3) (idx := 20) (T := TX3) (ty := (.array .long)) (v := (.ref q3)) 3 rfl (by decide) (rt_at 446 (by decide +kernel) (by decide +kernel)) rfl (by decide +kernel) rfl rfl (Nat.le_of_ble_eq_true rfl) (by decide +kernel) ?_
  refine ki_ws ((h0, .inr (3, [.ref q1, .ref q2, .int 0, .ref q3, .int 0, .int 0, .int 0])) :: (([(q1, .inl (G.2.2.1 0, 10, .inl (fun _ => 0)))] ++ [(q2, .inl (G.2.2.1 0, 10, .inl (fun _ => 0)))]) ++ [(q3, .inl (G.2.2.1 3, 24, .inr (.inl (fun _ => 0))))])) rfl ?_
  refine ki_aload_n (i := 0) (j := 0) (place := 0) (x := h0) (by decide +kernel) rfl rfl ?_
  refine ki_iconst (x := 0) (v := 0) (by decide +kernel) (by decide) ?_
  refine ki_put (ci := 3) (idx := 24) (T := TX3) (ty := .int) (v := (.int 0)) 4 rfl (by decide) (rt_at 448 (by decide +kernel) (by decide +kernel)) rfl (by decide +kernel) rfl rfl (Nat.le_of_ble_eq_true rfl) (by decide +kernel) ?_
  refine ki_ws ((h0, .inr (3, [.ref q1, .ref q2, .int 0, .ref q3, .int 0, .int 0, .int 0])) :: (([(q1, .inl (G.2.2.1 0, 10, .inl (fun _ => 0)))] ++ [(q2, .inl (G.2.2.1 0, 10, .inl (fun _ => 0)))]) ++ [(q3, .inl (G.2.2.1 3, 24, .inr (.inl (fun _ => 0))))])) rfl ?_
  refine ki_aload_n (i := 0) (j := 0) (place := 0) (x := h0) (by decide +kernel) rfl rfl ?_
  refine ki_iconst (x := 0) (v := 0) (by decide +kernel) (by decide) ?_
  refine ki_put (ci := 3) (idx := 27) (T := TX3) (ty := .int) (v := (.int 0)) 5 rfl (by decide) (rt_at 450 (by decide +kernel) (by decide +kernel)) rfl (by decide +kernel) rfl rfl (Nat.le_of_ble_eq_true rfl) (by decide +kernel) ?_
  refine ki_ws ((h0, .inr (3, [.ref q1, .ref q2, .int 0, .ref q3, .int 0, .int 0, .int 0])) :: (([(q1, .inl (G.2.2.1 0, 10, .inl (fun _ => 0)))] ++ [(q2, .inl (G.2.2.1 0, 10, .inl (fun _ => 0)))]) ++ [(q3, .inl (G.2.2.1 3, 24, .inr (.inl (fun _ => 0))))])) rfl ?_
  refine ki_aload_n (i := 0) (j := 0) (place := 0) (x := h0) (by decide +kernel) rfl rfl ?_
  refine ki_iconst (x := 0) (v := 0) (by decide +kernel) (by decide) ?_
  refine ki_put (ci := 3) (idx := 30) (T := TX3) (ty := .int) (v := (.int 0)) 6 rfl (by decide) (rt_at 452 (by decide +kernel) (by decide +kernel)) rfl (by decide +kernel) rfl rfl (Nat.le_of_ble_eq_true rfl) (by decide +kernel) ?_
  refine ki_ws ((h0, .inr (3, [.ref q1, .ref q2, .int 0, .ref q3, .int 0, .int 0, .int 0])) :: (([(q1, .inl (G.2.2.1 0, 10, .inl (fun _ => 0)))] ++ [(q2, .inl (G.2.2.1 0, 10, .inl (fun _ => 0)))]) ++ [(q3, .inl (G.2.2.1 3, 24, .inr (.inl (fun _ => 0))))])) rfl ?_
  exact ki_ret (fun j => [q1, q2, q3].getD j 0) (by rfl) ⟨rfl, rfl⟩ (by decide +kernel)
def kW5 (G : rt_G) (h0 : Nat) (a : Nat → Nat) : va_W := (h0, .inr (5, [.ref (a 0), .int 0])) :: [((a 0), .inl (G.2.2.1 0, 16, .inl (fun _ => 0)))]
def kI5 : rt_K := (yX5_init, cX5_init, 1, none)
set_option maxHeartbeats 4000000 in
set_option maxRecDepth 100000 in
theorem cI5 {G : rt_G} {h0 : Nat} : kiCall G ({ frames := 1, cells := 1, slots := 16, locals := 40 } : Room) kI5 1 16 [.ref h0] h0 (.inr (5, [.null, .int 0])) [] (kW5 G h0) := by
  refine ki_enter (lv := [(0, .ref h0)]) (by decide +kernel) rfl rfl (Nat.le_of_ble_eq_true rfl) rfl (fun A => ?_)
  refine ki_aload_n (i := 0) (j := 0) (place := 0) (x := h0) (by decide +kernel) rfl rfl ?_
  refine ki_obj (idx := 1) (rt_at 475 (by decide +kernel) (by decide +kernel)) ⟨(Nat.le_of_ble_eq_true rfl), (Nat.le_of_ble_eq_true rfl)⟩ (by decide +kernel) ?_
  refine ki_aload_n (i := 0) (j := 0) (place := 0) (x := h0) (by decide +kernel) rfl rfl ?_
  refine ki_bipush (x := 16) (v := 16) (by decide +kernel) (by decide) ?_
  refine ki_newa (atype := .int) (ty := .int) (a0 := (16, .inl (fun _ => 0))) (N' := 16) (t0 := 0) rfl rfl (fun _ _ h => h) (rt_at 138 (by decide +kernel) (by decide +kernel)) (fun _ => rfl) (by decide) (by decide) (Nat.le_of_ble_eq_true rfl) ⟨(Nat.le_of_ble_eq_true rfl), (Nat.le_of_ble_eq_true rfl)⟩ (by decide +kernel) (fun q1 => ?_)
  refine ki_ws ((h0, .inr (5, [.null, .int 0])) :: [(q1, .inl (G.2.2.1 0, 16, .inl (fun _ => 0)))]) rfl ?_
  refine ki_put (ci := 5) (idx := 7) (T := TX5) (ty := (.array .int)) (v := (.ref q1)) 0 rfl (by decide) (rt_at 476 (by decide +kernel) (by decide +kernel)) rfl (by decide +kernel) rfl rfl (Nat.le_of_ble_eq_true rfl) (by decide +kernel) ?_
  refine ki_ws ((h0, .inr (5, [.ref q1, .int 0])) :: [(q1, .inl (G.2.2.1 0, 16, .inl (fun _ => 0)))]) rfl ?_
  refine ki_aload_n (i := 0) (j := 0) (place := 0) (x := h0) (by decide +kernel) rfl rfl ?_
  refine ki_iconst (x := 0) (v := 0) (by decide +kernel) (by decide) ?_
  refine ki_put (ci := 5) (idx := 13) (T := TX5) (ty := .int) (v := (.int 0)) 1 rfl (by decide) (rt_at 478 (by decide +kernel) (by decide +kernel)) rfl (by decide +kernel) rfl rfl (Nat.le_of_ble_eq_true rfl) (by decide +kernel) ?_
  refine ki_ws ((h0, .inr (5, [.ref q1, .int 0])) :: [(q1, .inl (G.2.2.1 0, 16, .inl (fun _ => 0)))]) rfl ?_
  exact ki_ret (fun j => [q1].getD j 0) (by rfl) ⟨rfl, rfl⟩ (by decide +kernel)
