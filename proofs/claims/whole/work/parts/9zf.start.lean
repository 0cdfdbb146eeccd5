/-! THE START: the picture behind both constructors -/
def td0 : Nat → Int32 := upd (upd (upd (fun _ => 0) 0 12) 1 20) 2 0
def td1 : Nat → Int32 := upd (upd (upd (upd (upd (upd (upd (upd (upd (fun _ => 0) 0 12) 1 20) 2 0) 3 0) 4 0) 5 0) 6 0) 7 0) 8 0
def I0 : rt_I := fun c => if c = 3 then (fun j => if j = 2 then 1 else 0) else if c = 4 then td0 else if c = 20 then (fun j => if j = 4 then 6 else 0) else if c = 29 then (fun j => if j = 11 then 1000000 else 0) else if c = 108 then (fun j => if j = 7 then 1 else if j = 9 then 6 else 0) else if c = 113 then td1 else fun _ => 0
def L0 : rt_L := fun _ _ => 0
def stPos : List Nat := [0, 1, 2, 3, 4, 5, 6, 7, 8, 9, 10, 11, 12, 17, 18, 19, 13, 14, 15, 16, 20, 21, 22, 23, 24, 89, 90, 91, 92, 93, 94, 95, 96, 97, 98, 99, 100, 101, 102, 103, 104, 105, 106, 107, 29, 30, 31, 32, 33, 34, 35, 36, 37, 38, 39, 40, 41, 42, 43, 44, 45, 46, 47, 48, 49, 50, 51, 52, 53, 54, 55, 56, 57, 58, 59, 60, 61, 62, 63, 64, 65, 66, 67, 68, 69, 70, 71, 72, 73, 74, 75, 76, 77, 78, 79, 80, 81, 82, 83, 84, 85, 86, 87, 88, 25, 26, 27, 28, 108, 109, 110, 111, 112, 113, 114, 115, 116, 117, 118, 119, 120, 121, 122, 123, 124, 125, 126, 127, 128, 129, 130, 131, 132, 133, 134, 135]
def stOrd : List Nat := [0, 1, 2, 3, 4, 5, 6, 7, 8, 9, 10, 11, 12, 16, 17, 18, 19, 13, 14, 15, 20, 21, 22, 23, 24, 104, 105, 106, 107, 44, 45, 46, 47, 48, 49, 50, 51, 52, 53, 54, 55, 56, 57, 58, 59, 60, 61, 62, 63, 64, 65, 66, 67, 68, 69, 70, 71, 72, 73, 74, 75, 76, 77, 78, 79, 80, 81, 82, 83, 84, 85, 86, 87, 88, 89, 90, 91, 92, 93, 94, 95, 96, 97, 98, 99, 100, 101, 102, 103, 25, 26, 27, 28, 29, 30, 31, 32, 33, 34, 35, 36, 37, 38, 39, 40, 41, 42, 43, 108, 109, 110, 111, 112, 113, 114, 115, 116, 117, 118, 119, 120, 121, 122, 123, 124, 125, 126, 127, 128, 129, 130, 131, 132, 133, 134, 135]
def stAd (q0 q1 qo : Nat) (a b : Nat → Nat) : Nat → Nat := fun c => if stPos.getD c 0 = 0 then q0 else if stPos.getD c 0 < 108 then a (stPos.getD c 0 - 1) else if stPos.getD c 0 = 108 then q1 else if stPos.getD c 0 < 135 then b (stPos.getD c 0 - 109) else qo
def stW (G : rt_G) (q0 q1 qo : Nat) (a b : Nat → Nat) : va_W := (kW11 G q0 a ++ kW12 G q1 b) ++ [(qo, .inl (G.2.2.1 3, 1, .inr (.inl (fun _ => 0))))]
def stS : SV := mkS 0 0 0 1 td0 (fun _ => 0) (fun _ => 0) (fun _ => 0) rvd 6
theorem st_INV : INV 0 I0 := by
  refine ⟨stS, fun _ => 0, [], fun _ => none, (0, fun _ => 0, fun _ => 0), [], (0, fun _ => 0), ⟨?_, ?_, ?_, ?_, ?_, ?_, ?_⟩, ⟨?_, ?_, ?_, ?_, ?_, ?_, ?_⟩, ?_⟩
  · refine ⟨by decide +kernel, by decide +kernel, by decide +kernel, by decide +kernel, fun j hj => rfl, fun j hj => rfl, fun j hj => rfl, fun j hj => rfl, Or.inl ⟨by decide +kernel, rfl⟩, by decide +kernel⟩
  · exact ⟨rfl, fun j hj => rfl, fun w hw => rfl, fun w hw => rfl⟩
  · exact ⟨by decide, 0, by decide, by decide +kernel, by decide +kernel, fun j u h => by simp at h⟩
  · exact fun i hi => ⟨fun _ => rfl, fun u h => by cases h⟩
  · exact ⟨by decide +kernel, fun j hj => rfl, fun j hj => rfl⟩
  · exact ⟨by decide +kernel, fun i v h => by simp at h⟩
  · exact ⟨by decide +kernel, fun j hj => rfl⟩
  · refine ⟨by decide +kernel, by decide +kernel, by decide +kernel, by decide +kernel, fun j hj => ?_, fun j hj => rfl, fun j hj => rfl, fun j hj => rfl, ⟨fun i => rfl, Or.inl ⟨by decide +kernel, rfl⟩⟩, by decide +kernel, by decide +kernel⟩
    have hj : j < 3 := hj
    rcases (show j = 0 ∨ j = 1 ∨ j = 2 by omega) with rfl | rfl | rfl <;> decide +kernel
  · exact ⟨rfl, fun j hj => rfl, fun w hw => rfl, fun w hw => rfl⟩
  · exact ⟨by decide, by decide +kernel, fun j u h => by simp at h⟩
  · exact ⟨0, Nat.le_refl _, by decide +kernel, fun i hi => ⟨Or.inl rfl, fun _ => Or.inl rfl, fun u h => by cases h⟩⟩
  · exact ⟨by decide +kernel, fun j hj => absurd hj (by show ¬ j < 0; omega)⟩
  · exact ⟨by decide +kernel, fun i v h => by simp at h⟩
  · exact ⟨by decide +kernel, fun j hj => absurd hj (by show ¬ j < 0; omega), fun i => rfl⟩
  · refine ⟨⟨by decide, by decide, by decide, by decide, by decide, fun k hk => ?_, 6, by decide, by decide, by decide +kernel⟩, ⟨⟨0, Nat.le_refl _, by decide +kernel, fun c hc => absurd hc (by show ¬ c < 0; omega)⟩, fun w hw => absurd hw (by show ¬ w < 0; omega)⟩, fun u h => (by simp at h), fun i u hi h => (by cases h), (by decide), (by decide), ⟨(by decide), fun j hj => absurd hj (by show ¬ j < 0; omega)⟩⟩
    have hk : k < 1 := hk
    obtain rfl : k = 0 := by omega
    exact ⟨12, 20, 0, by decide, by decide, by decide, by decide, by decide +kernel, by decide +kernel, by decide +kernel⟩
section
variable {dC cA : Nat → ClassId} {dI : Nat → Nat → Nat} {q0 q1 qo : Nat} {a b : Nat → Nat}
def stF0 (cA : Nat → ClassId) (q0 q1 qo : Nat) (a b : Nat → Nat) : va_W := (q0, .inr (11, [.ref (a 0), .ref (a 2), .ref (a 5), .ref (a 11), .ref (a 19), .ref (a 20), .ref (a 88), .ref (a 92), .ref (a 101), .ref (a 105)])) :: ((a 0), .inr (7, [.ref (a 1), .int 0, .int 0, .int 0])) :: ((a 1), .inl (cA 0, 80, .inl (fun _ => 0))) :: ((a 2), .inr (8, [.ref (a 3), .ref (a 4), .int 1, .int 0])) :: ((a 3), .inl (cA 0, 9, .inl td0)) :: ((a 4), .inl (cA 0, 9, .inl (fun _ => 0))) :: ((a 5), .inr (6, [.ref (a 6), .int 0, .ref (a 7), .int 0, .ref (a 8), .int 0, .ref (a 9), .ref (a 10), .int 0, .int 0])) :: ((a 6), .inl (cA 0, 40, .inl (fun _ => 0))) :: ((a 7), .inl (cA 0, 40, .inl (fun _ => 0))) :: ((a 8), .inl (cA 0, 40, .inl (fun _ => 0))) :: ((a 9), .inl (cA 0, 40, .inl (fun _ => 0))) :: ((a 10), .inl (cA 0, 6, .inl (fun _ => 0))) :: ((a 11), .inr (2, [.ref (a 12), .int 0, .int 0, .ref (a 16), .ref (a 17), .ref (a 18), .int 0, .int 0, .int 0])) :: ((a 12), .inr (4, [.int 0, .int 0, .ref (a 13), .ref (a 14), .ref (a 15)])) :: ((a 13), .inl (cA 0, 40, .inl (fun _ => 0))) :: ((a 14), .inl (cA 0, 12, .inl (fun _ => 0))) :: ((a 15), .inl (cA 0, 12, .inl (fun _ => 0))) :: ((a 16), .inl (cA 0, 8, .inl (fun _ => 0))) :: ((a 17), .inl (cA 0, 12, .inl (fun _ => 0))) :: ((a 18), .inl (cA 0, 12, .inl (fun _ => 0))) :: ((a 19), .inr (9, [.ref (a 11), .ref (a 12), .ref (a 2), .ref (a 5), .int 6, .int 0, .int 0, .int 0, .int 0, .int 0, .int 0, .int 0])) :: ((a 20), .inr (1, [.ref (a 21), .ref (a 22), .ref (a 23), .ref (a 24), .int 0, .int 0])) :: ((a 21), .inl (cA 4, 13, .inr (.inr (.inr (.inr (va_up (va_up (va_up (va_up (va_up (va_up (va_up (va_up (va_up (va_up (va_up (va_up (va_up (fun _ => none) 0 (some (a 28))) 1 (some (a 32))) 2 (some (a 36))) 3 (some (a 40))) 4 (some (a 44))) 5 (some (a 48))) 6 (some (a 52))) 7 (some (a 56))) 8 (some (a 60))) 9 (some (a 64))) 10 (some (a 68))) 11 (some (a 72))) 12 (some (a 76)))))))) :: ((a 22), .inl (cA 4, 2, .inr (.inr (.inr (.inr (va_up (va_up (fun _ => none) 0 (some (a 80))) 1 (some (a 84)))))))) :: ((a 23), .inl (cA 2, 2, .inl (fun _ => 0))) :: ((a 24), .inr (4, [.int 0, .int 0, .ref (a 25), .ref (a 26), .ref (a 27)])) :: ((a 25), .inl (cA 0, 40, .inl (fun _ => 0))) :: ((a 26), .inl (cA 0, 12, .inl (fun _ => 0))) :: []
def stF1 (cA : Nat → ClassId) (q0 q1 qo : Nat) (a b : Nat → Nat) : va_W := ((a 27), .inl (cA 0, 12, .inl (fun _ => 0))) :: ((a 28), .inr (4, [.int 0, .int 0, .ref (a 29), .ref (a 30), .ref (a 31)])) :: ((a 29), .inl (cA 0, 40, .inl (fun _ => 0))) :: ((a 30), .inl (cA 0, 12, .inl (fun _ => 0))) :: ((a 31), .inl (cA 0, 12, .inl (fun _ => 0))) :: ((a 32), .inr (4, [.int 0, .int 0, .ref (a 33), .ref (a 34), .ref (a 35)])) :: ((a 33), .inl (cA 0, 40, .inl (fun _ => 0))) :: ((a 34), .inl (cA 0, 12, .inl (fun _ => 0))) :: ((a 35), .inl (cA 0, 12, .inl (fun _ => 0))) :: ((a 36), .inr (4, [.int 0, .int 0, .ref (a 37), .ref (a 38), .ref (a 39)])) :: ((a 37), .inl (cA 0, 40, .inl (fun _ => 0))) :: ((a 38), .inl (cA 0, 12, .inl (fun _ => 0))) :: ((a 39), .inl (cA 0, 12, .inl (fun _ => 0))) :: ((a 40), .inr (4, [.int 0, .int 0, .ref (a 41), .ref (a 42), .ref (a 43)])) :: ((a 41), .inl (cA 0, 40, .inl (fun _ => 0))) :: ((a 42), .inl (cA 0, 12, .inl (fun _ => 0))) :: ((a 43), .inl (cA 0, 12, .inl (fun _ => 0))) :: ((a 44), .inr (4, [.int 0, .int 0, .ref (a 45), .ref (a 46), .ref (a 47)])) :: ((a 45), .inl (cA 0, 40, .inl (fun _ => 0))) :: ((a 46), .inl (cA 0, 12, .inl (fun _ => 0))) :: ((a 47), .inl (cA 0, 12, .inl (fun _ => 0))) :: ((a 48), .inr (4, [.int 0, .int 0, .ref (a 49), .ref (a 50), .ref (a 51)])) :: ((a 49), .inl (cA 0, 40, .inl (fun _ => 0))) :: ((a 50), .inl (cA 0, 12, .inl (fun _ => 0))) :: ((a 51), .inl (cA 0, 12, .inl (fun _ => 0))) :: ((a 52), .inr (4, [.int 0, .int 0, .ref (a 53), .ref (a 54), .ref (a 55)])) :: ((a 53), .inl (cA 0, 40, .inl (fun _ => 0))) :: ((a 54), .inl (cA 0, 12, .inl (fun _ => 0))) :: []
def stF2 (cA : Nat → ClassId) (q0 q1 qo : Nat) (a b : Nat → Nat) : va_W := ((a 55), .inl (cA 0, 12, .inl (fun _ => 0))) :: ((a 56), .inr (4, [.int 0, .int 0, .ref (a 57), .ref (a 58), .ref (a 59)])) :: ((a 57), .inl (cA 0, 40, .inl (fun _ => 0))) :: ((a 58), .inl (cA 0, 12, .inl (fun _ => 0))) :: ((a 59), .inl (cA 0, 12, .inl (fun _ => 0))) :: ((a 60), .inr (4, [.int 0, .int 0, .ref (a 61), .ref (a 62), .ref (a 63)])) :: ((a 61), .inl (cA 0, 40, .inl (fun _ => 0))) :: ((a 62), .inl (cA 0, 12, .inl (fun _ => 0))) :: ((a 63), .inl (cA 0, 12, .inl (fun _ => 0))) :: ((a 64), .inr (4, [.int 0, .int 0, .ref (a 65), .ref (a 66), .ref (a 67)])) :: ((a 65), .inl (cA 0, 40, .inl (fun _ => 0))) :: ((a 66), .inl (cA 0, 12, .inl (fun _ => 0))) :: ((a 67), .inl (cA 0, 12, .inl (fun _ => 0))) :: ((a 68), .inr (4, [.int 0, .int 0, .ref (a 69), .ref (a 70), .ref (a 71)])) :: ((a 69), .inl (cA 0, 40, .inl (fun _ => 0))) :: ((a 70), .inl (cA 0, 12, .inl (fun _ => 0))) :: ((a 71), .inl (cA 0, 12, .inl (fun _ => 0))) :: ((a 72), .inr (4, [.int 0, .int 0, .ref (a 73), .ref (a 74), .ref (a 75)])) :: ((a 73), .inl (cA 0, 40, .inl (fun _ => 0))) :: ((a 74), .inl (cA 0, 12, .inl (fun _ => 0))) :: ((a 75), .inl (cA 0, 12, .inl (fun _ => 0))) :: ((a 76), .inr (4, [.int 0, .int 0, .ref (a 77), .ref (a 78), .ref (a 79)])) :: ((a 77), .inl (cA 0, 40, .inl (fun _ => 0))) :: ((a 78), .inl (cA 0, 12, .inl (fun _ => 0))) :: ((a 79), .inl (cA 0, 12, .inl (fun _ => 0))) :: ((a 80), .inr (4, [.int 0, .int 0, .ref (a 81), .ref (a 82), .ref (a 83)])) :: ((a 81), .inl (cA 0, 40, .inl (fun _ => 0))) :: ((a 82), .inl (cA 0, 12, .inl (fun _ => 0))) :: []
def stF3 (cA : Nat → ClassId) (q0 q1 qo : Nat) (a b : Nat → Nat) : va_W := ((a 83), .inl (cA 0, 12, .inl (fun _ => 0))) :: ((a 84), .inr (4, [.int 0, .int 0, .ref (a 85), .ref (a 86), .ref (a 87)])) :: ((a 85), .inl (cA 0, 40, .inl (fun _ => 0))) :: ((a 86), .inl (cA 0, 12, .inl (fun _ => 0))) :: ((a 87), .inl (cA 0, 12, .inl (fun _ => 0))) :: ((a 88), .inr (0, [.ref (a 89), .ref (a 90), .ref (a 91), .int 0, .int 0])) :: ((a 89), .inl (cA 0, 60, .inl (fun _ => 0))) :: ((a 90), .inl (cA 0, 60, .inl (fun _ => 0))) :: ((a 91), .inl (cA 0, 60, .inl (fun _ => 0))) :: ((a 92), .inr (10, [.ref (a 19), .ref (a 11), .ref (a 93), .ref (a 94), .ref (a 95), .ref (a 96), .ref (a 97), .ref (a 98), .ref (a 99), .ref (a 100), .int 0, .int 1000000])) :: ((a 93), .inl (cA 0, 24, .inl (fun _ => 0))) :: ((a 94), .inl (cA 0, 2928, .inl (fun _ => 0))) :: ((a 95), .inl (cA 0, 12, .inl (fun _ => 0))) :: ((a 96), .inl (cA 0, 8, .inl (fun _ => 0))) :: ((a 97), .inl (cA 0, 8, .inl (fun _ => 0))) :: ((a 98), .inl (cA 0, 6, .inl (fun _ => 0))) :: ((a 99), .inl (cA 0, 6, .inl (fun _ => 0))) :: ((a 100), .inl (cA 0, 56, .inl (fun _ => 0))) :: ((a 101), .inr (3, [.ref (a 102), .ref (a 103), .int 0, .ref (a 104), .int 0, .int 0, .int 0])) :: ((a 102), .inl (cA 0, 10, .inl (fun _ => 0))) :: ((a 103), .inl (cA 0, 10, .inl (fun _ => 0))) :: ((a 104), .inl (cA 3, 24, .inr (.inl (fun _ => 0)))) :: ((a 105), .inr (5, [.ref (a 106), .int 0])) :: ((a 106), .inl (cA 0, 16, .inl (fun _ => 0))) :: []
def stF4 (cA : Nat → ClassId) (q0 q1 qo : Nat) (a b : Nat → Nat) : va_W := (q1, .inr (12, [.ref (b 0), .int 0, .ref (b 1), .int 0, .ref (b 2), .ref (b 3), .int 0, .int 1, .ref (b 4), .int 6, .ref (b 5), .int 0, .ref (b 6), .int 0, .int 0, .null, .int 0, .int 0, .int 0, .int 0, .ref (b 7), .ref (b 8), .int 0, .int 0, .ref (b 9), .ref (b 10), .ref (b 11), .int 0, .int 0, .ref (b 12), .ref (b 13), .int 0, .ref (b 14), .int 0, .int 0, .int 0, .int 0, .int 0, .ref (b 15), .ref (b 16), .ref (b 17), .ref (b 18), .int 0, .ref (b 19), .int 0, .int 0, .int 0, .ref (b 20), .int 0, .ref (b 21), .int 0, .ref (b 22), .int 0, .ref (b 23), .ref (b 24), .ref (b 25)])) :: ((b 0), .inl (cA 0, 65, .inl (fun _ => 0))) :: ((b 1), .inl (cA 0, 8, .inl (fun _ => 0))) :: ((b 2), .inl (cA 0, 12, .inl (fun _ => 0))) :: ((b 3), .inl (cA 0, 12, .inl (fun _ => 0))) :: ((b 4), .inl (cA 0, 9, .inl td1)) :: ((b 5), .inl (cA 1, 80, .inl (fun _ => 0))) :: ((b 6), .inl (cA 0, 40, .inl (fun _ => 0))) :: ((b 7), .inl (cA 0, 8, .inl (fun _ => 0))) :: ((b 8), .inl (cA 0, 48, .inl (fun _ => 0))) :: ((b 9), .inl (cA 0, 9, .inl (fun _ => 0))) :: ((b 10), .inl (cA 0, 15, .inl (fun _ => 0))) :: ((b 11), .inl (cA 1, 40, .inl (fun _ => 0))) :: ((b 12), .inl (cA 0, 6, .inl (fun _ => 0))) :: ((b 13), .inl (cA 0, 780, .inl (fun _ => 0))) :: ((b 14), .inl (cA 0, 65, .inl (fun _ => 0))) :: ((b 15), .inl (cA 0, 240, .inl (fun _ => 0))) :: ((b 16), .inl (cA 0, 8, .inl (fun _ => 0))) :: ((b 17), .inl (cA 0, 8, .inl (fun _ => 0))) :: ((b 18), .inl (cA 0, 8, .inl (fun _ => 0))) :: ((b 19), .inl (cA 0, 8, .inl (fun _ => 0))) :: ((b 20), .inl (cA 0, 20, .inl (fun _ => 0))) :: ((b 21), .inl (cA 2, 984, .inl (fun _ => 0))) :: ((b 22), .inl (cA 0, 65, .inl (fun _ => 0))) :: ((b 23), .inl (cA 0, 130, .inl (fun _ => 0))) :: ((b 24), .inl (cA 2, 2, .inl (fun _ => 0))) :: ((b 25), .inl (cA 0, 2, .inl (fun _ => 0))) :: (qo, .inl (cA 3, 1, .inr (.inl (fun _ => 0)))) :: []
def stFlat (cA : Nat → ClassId) (q0 q1 qo : Nat) (a b : Nat → Nat) : va_W := stF0 cA q0 q1 qo a b ++ (stF1 cA q0 q1 qo a b ++ (stF2 cA q0 q1 qo a b ++ (stF3 cA q0 q1 qo a b ++ stF4 cA q0 q1 qo a b)))
set_option maxRecDepth 100000 in
set_option maxHeartbeats 20000000 in
theorem st_flat : stW (dC, dI, cA, stAd q0 q1 qo a b) q0 q1 qo a b = stFlat cA q0 q1 qo a b := by
  unfold stW kW11 kW12 kW7 kW8 kW6 kW2 kW4 kW9 kW1 kW0 kW10 kW3 kW5 stFlat stF0 stF1 stF2 stF3 stF4
  simp only [List.cons_append, List.nil_append, List.append_assoc, List.append_nil, kW4]
  rfl
theorem st_k0 : (stFlat cA q0 q1 qo a b)[0]? = some (stAd q0 q1 qo a b 0, rt_en (stAd q0 q1 qo a b) cA I0 L0 136 0) := rfl
theorem st_k1 : (stFlat cA q0 q1 qo a b)[1]? = some (stAd q0 q1 qo a b 1, rt_en (stAd q0 q1 qo a b) cA I0 L0 136 1) := rfl
theorem st_k2 : (stFlat cA q0 q1 qo a b)[2]? = some (stAd q0 q1 qo a b 2, rt_en (stAd q0 q1 qo a b) cA I0 L0 136 2) := rfl
theorem st_k3 : (stFlat cA q0 q1 qo a b)[3]? = some (stAd q0 q1 qo a b 3, rt_en (stAd q0 q1 qo a b) cA I0 L0 136 3) := rfl
theorem st_k4 : (stFlat cA q0 q1 qo a b)[4]? = some (stAd q0 q1 qo a b 4, rt_en (stAd q0 q1 qo a b) cA I0 L0 136 4) := rfl
theorem st_k5 : (stFlat cA q0 q1 qo a b)[5]? = some (stAd q0 q1 qo a b 5, rt_en (stAd q0 q1 qo a b) cA I0 L0 136 5) := rfl
theorem st_k6 : (stFlat cA q0 q1 qo a b)[6]? = some (stAd q0 q1 qo a b 6, rt_en (stAd q0 q1 qo a b) cA I0 L0 136 6) := rfl
theorem st_k7 : (stFlat cA q0 q1 qo a b)[7]? = some (stAd q0 q1 qo a b 7, rt_en (stAd q0 q1 qo a b) cA I0 L0 136 7) := rfl
theorem st_k8 : (stFlat cA q0 q1 qo a b)[8]? = some (stAd q0 q1 qo a b 8, rt_en (stAd q0 q1 qo a b) cA I0 L0 136 8) := rfl
theorem st_k9 : (stFlat cA q0 q1 qo a b)[9]? = some (stAd q0 q1 qo a b 9, rt_en (stAd q0 q1 qo a b) cA I0 L0 136 9) := rfl
theorem st_k10 : (stFlat cA q0 q1 qo a b)[10]? = some (stAd q0 q1 qo a b 10, rt_en (stAd q0 q1 qo a b) cA I0 L0 136 10) := rfl
theorem st_k11 : (stFlat cA q0 q1 qo a b)[11]? = some (stAd q0 q1 qo a b 11, rt_en (stAd q0 q1 qo a b) cA I0 L0 136 11) := rfl
theorem st_k12 : (stFlat cA q0 q1 qo a b)[12]? = some (stAd q0 q1 qo a b 12, rt_en (stAd q0 q1 qo a b) cA I0 L0 136 12) := rfl
theorem st_k13 : (stFlat cA q0 q1 qo a b)[17]? = some (stAd q0 q1 qo a b 13, rt_en (stAd q0 q1 qo a b) cA I0 L0 136 13) := rfl
theorem st_k14 : (stFlat cA q0 q1 qo a b)[18]? = some (stAd q0 q1 qo a b 14, rt_en (stAd q0 q1 qo a b) cA I0 L0 136 14) := rfl
theorem st_k15 : (stFlat cA q0 q1 qo a b)[19]? = some (stAd q0 q1 qo a b 15, rt_en (stAd q0 q1 qo a b) cA I0 L0 136 15) := rfl
theorem st_k16 : (stFlat cA q0 q1 qo a b)[13]? = some (stAd q0 q1 qo a b 16, rt_en (stAd q0 q1 qo a b) cA I0 L0 136 16) := rfl
theorem st_k17 : (stFlat cA q0 q1 qo a b)[14]? = some (stAd q0 q1 qo a b 17, rt_en (stAd q0 q1 qo a b) cA I0 L0 136 17) := rfl
theorem st_k18 : (stFlat cA q0 q1 qo a b)[15]? = some (stAd q0 q1 qo a b 18, rt_en (stAd q0 q1 qo a b) cA I0 L0 136 18) := rfl
theorem st_k19 : (stFlat cA q0 q1 qo a b)[16]? = some (stAd q0 q1 qo a b 19, rt_en (stAd q0 q1 qo a b) cA I0 L0 136 19) := rfl
theorem st_k20 : (stFlat cA q0 q1 qo a b)[20]? = some (stAd q0 q1 qo a b 20, rt_en (stAd q0 q1 qo a b) cA I0 L0 136 20) := rfl
theorem st_k21 : (stFlat cA q0 q1 qo a b)[21]? = some (stAd q0 q1 qo a b 21, rt_en (stAd q0 q1 qo a b) cA I0 L0 136 21) := rfl
theorem st_k22 : (stFlat cA q0 q1 qo a b)[22]? = some (stAd q0 q1 qo a b 22, rt_en (stAd q0 q1 qo a b) cA I0 L0 136 22) := by
  have e : (fun j => (rt_pt 136 22 j).map (stAd q0 q1 qo a b)) = (va_up (va_up (va_up (va_up (va_up (va_up (va_up (va_up (va_up (va_up (va_up (va_up (va_up (fun _ => none) 0 (some (a 28))) 1 (some (a 32))) 2 (some (a 36))) 3 (some (a 40))) 4 (some (a 44))) 5 (some (a 48))) 6 (some (a 52))) 7 (some (a 56))) 8 (some (a 60))) 9 (some (a 64))) 10 (some (a 68))) 11 (some (a 72))) 12 (some (a 76))) := by
    funext j
    match j with
    | 0 => rfl
    | 1 => rfl
    | 2 => rfl
    | 3 => rfl
    | 4 => rfl
    | 5 => rfl
    | 6 => rfl
    | 7 => rfl
    | 8 => rfl
    | 9 => rfl
    | 10 => rfl
    | 11 => rfl
    | 12 => rfl
    | j + 13 => simp [va_up, rt_pt, rt_ptL]
  show _ = some (stAd q0 q1 qo a b 22, (.inl (cA 4, 13, .inr (.inr (.inr (.inr (fun j => (rt_pt 136 22 j).map (stAd q0 q1 qo a b)))))) : va_E))
  rw [e]
  rfl
theorem st_k23 : (stFlat cA q0 q1 qo a b)[23]? = some (stAd q0 q1 qo a b 23, rt_en (stAd q0 q1 qo a b) cA I0 L0 136 23) := by
  have e : (fun j => (rt_pt 136 23 j).map (stAd q0 q1 qo a b)) = (va_up (va_up (fun _ => none) 0 (some (a 80))) 1 (some (a 84))) := by
    funext j
    match j with
    | 0 => rfl
    | 1 => rfl
    | j + 2 => simp [va_up, rt_pt, rt_ptL]
  show _ = some (stAd q0 q1 qo a b 23, (.inl (cA 4, 2, .inr (.inr (.inr (.inr (fun j => (rt_pt 136 23 j).map (stAd q0 q1 qo a b)))))) : va_E))
  rw [e]
  rfl
theorem st_k24 : (stFlat cA q0 q1 qo a b)[24]? = some (stAd q0 q1 qo a b 24, rt_en (stAd q0 q1 qo a b) cA I0 L0 136 24) := rfl
theorem st_k25 : (stFlat cA q0 q1 qo a b)[89]? = some (stAd q0 q1 qo a b 25, rt_en (stAd q0 q1 qo a b) cA I0 L0 136 25) := rfl
theorem st_k26 : (stFlat cA q0 q1 qo a b)[90]? = some (stAd q0 q1 qo a b 26, rt_en (stAd q0 q1 qo a b) cA I0 L0 136 26) := rfl
theorem st_k27 : (stFlat cA q0 q1 qo a b)[91]? = some (stAd q0 q1 qo a b 27, rt_en (stAd q0 q1 qo a b) cA I0 L0 136 27) := rfl
theorem st_k28 : (stFlat cA q0 q1 qo a b)[92]? = some (stAd q0 q1 qo a b 28, rt_en (stAd q0 q1 qo a b) cA I0 L0 136 28) := rfl
theorem st_k29 : (stFlat cA q0 q1 qo a b)[93]? = some (stAd q0 q1 qo a b 29, rt_en (stAd q0 q1 qo a b) cA I0 L0 136 29) := rfl
theorem st_k30 : (stFlat cA q0 q1 qo a b)[94]? = some (stAd q0 q1 qo a b 30, rt_en (stAd q0 q1 qo a b) cA I0 L0 136 30) := rfl
theorem st_k31 : (stFlat cA q0 q1 qo a b)[95]? = some (stAd q0 q1 qo a b 31, rt_en (stAd q0 q1 qo a b) cA I0 L0 136 31) := rfl
theorem st_k32 : (stFlat cA q0 q1 qo a b)[96]? = some (stAd q0 q1 qo a b 32, rt_en (stAd q0 q1 qo a b) cA I0 L0 136 32) := rfl
theorem st_k33 : (stFlat cA q0 q1 qo a b)[97]? = some (stAd q0 q1 qo a b 33, rt_en (stAd q0 q1 qo a b) cA I0 L0 136 33) := rfl
theorem st_k34 : (stFlat cA q0 q1 qo a b)[98]? = some (stAd q0 q1 qo a b 34, rt_en (stAd q0 q1 qo a b) cA I0 L0 136 34) := rfl
theorem st_k35 : (stFlat cA q0 q1 qo a b)[99]? = some (stAd q0 q1 qo a b 35, rt_en (stAd q0 q1 qo a b) cA I0 L0 136 35) := rfl
theorem st_k36 : (stFlat cA q0 q1 qo a b)[100]? = some (stAd q0 q1 qo a b 36, rt_en (stAd q0 q1 qo a b) cA I0 L0 136 36) := rfl
theorem st_k37 : (stFlat cA q0 q1 qo a b)[101]? = some (stAd q0 q1 qo a b 37, rt_en (stAd q0 q1 qo a b) cA I0 L0 136 37) := rfl
theorem st_k38 : (stFlat cA q0 q1 qo a b)[102]? = some (stAd q0 q1 qo a b 38, rt_en (stAd q0 q1 qo a b) cA I0 L0 136 38) := rfl
theorem st_k39 : (stFlat cA q0 q1 qo a b)[103]? = some (stAd q0 q1 qo a b 39, rt_en (stAd q0 q1 qo a b) cA I0 L0 136 39) := rfl
theorem st_k40 : (stFlat cA q0 q1 qo a b)[104]? = some (stAd q0 q1 qo a b 40, rt_en (stAd q0 q1 qo a b) cA I0 L0 136 40) := rfl
theorem st_k41 : (stFlat cA q0 q1 qo a b)[105]? = some (stAd q0 q1 qo a b 41, rt_en (stAd q0 q1 qo a b) cA I0 L0 136 41) := rfl
theorem st_k42 : (stFlat cA q0 q1 qo a b)[106]? = some (stAd q0 q1 qo a b 42, rt_en (stAd q0 q1 qo a b) cA I0 L0 136 42) := rfl
theorem st_k43 : (stFlat cA q0 q1 qo a b)[107]? = some (stAd q0 q1 qo a b 43, rt_en (stAd q0 q1 qo a b) cA I0 L0 136 43) := rfl
theorem st_k44 : (stFlat cA q0 q1 qo a b)[29]? = some (stAd q0 q1 qo a b 44, rt_en (stAd q0 q1 qo a b) cA I0 L0 136 44) := rfl
theorem st_k45 : (stFlat cA q0 q1 qo a b)[30]? = some (stAd q0 q1 qo a b 45, rt_en (stAd q0 q1 qo a b) cA I0 L0 136 45) := rfl
theorem st_k46 : (stFlat cA q0 q1 qo a b)[31]? = some (stAd q0 q1 qo a b 46, rt_en (stAd q0 q1 qo a b) cA I0 L0 136 46) := rfl
theorem st_k47 : (stFlat cA q0 q1 qo a b)[32]? = some (stAd q0 q1 qo a b 47, rt_en (stAd q0 q1 qo a b) cA I0 L0 136 47) := rfl
theorem st_k48 : (stFlat cA q0 q1 qo a b)[33]? = some (stAd q0 q1 qo a b 48, rt_en (stAd q0 q1 qo a b) cA I0 L0 136 48) := rfl
theorem st_k49 : (stFlat cA q0 q1 qo a b)[34]? = some (stAd q0 q1 qo a b 49, rt_en (stAd q0 q1 qo a b) cA I0 L0 136 49) := rfl
theorem st_k50 : (stFlat cA q0 q1 qo a b)[35]? = some (stAd q0 q1 qo a b 50, rt_en (stAd q0 q1 qo a b) cA I0 L0 136 50) := rfl
theorem st_k51 : (stFlat cA q0 q1 qo a b)[36]? = some (stAd q0 q1 qo a b 51, rt_en (stAd q0 q1 qo a b) cA I0 L0 136 51) := rfl
theorem st_k52 : (stFlat cA q0 q1 qo a b)[37]? = some (stAd q0 q1 qo a b 52, rt_en (stAd q0 q1 qo a b) cA I0 L0 136 52) := rfl
theorem st_k53 : (stFlat cA q0 q1 qo a b)[38]? = some (stAd q0 q1 qo a b 53, rt_en (stAd q0 q1 qo a b) cA I0 L0 136 53) := rfl
theorem st_k54 : (stFlat cA q0 q1 qo a b)[39]? = some (stAd q0 q1 qo a b 54, rt_en (stAd q0 q1 qo a b) cA I0 L0 136 54) := rfl
theorem st_k55 : (stFlat cA q0 q1 qo a b)[40]? = some (stAd q0 q1 qo a b 55, rt_en (stAd q0 q1 qo a b) cA I0 L0 136 55) := rfl
theorem st_k56 : (stFlat cA q0 q1 qo a b)[41]? = some (stAd q0 q1 qo a b 56, rt_en (stAd q0 q1 qo a b) cA I0 L0 136 56) := rfl
theorem st_k57 : (stFlat cA q0 q1 qo a b)[42]? = some (stAd q0 q1 qo a b 57, rt_en (stAd q0 q1 qo a b) cA I0 L0 136 57) := rfl
theorem st_k58 : (stFlat cA q0 q1 qo a b)[43]? = some (stAd q0 q1 qo a b 58, rt_en (stAd q0 q1 qo a b) cA I0 L0 136 58) := rfl
theorem st_k59 : (stFlat cA q0 q1 qo a b)[44]? = some (stAd q0 q1 qo a b 59, rt_en (stAd q0 q1 qo a b) cA I0 L0 136 59) := rfl
theorem st_k60 : (stFlat cA q0 q1 qo a b)[45]? = some (stAd q0 q1 qo a b 60, rt_en (stAd q0 q1 qo a b) cA I0 L0 136 60) := rfl
theorem st_k61 : (stFlat cA q0 q1 qo a b)[46]? = some (stAd q0 q1 qo a b 61, rt_en (stAd q0 q1 qo a b) cA I0 L0 136 61) := rfl
theorem st_k62 : (stFlat cA q0 q1 qo a b)[47]? = some (stAd q0 q1 qo a b 62, rt_en (stAd q0 q1 qo a b) cA I0 L0 136 62) := rfl
theorem st_k63 : (stFlat cA q0 q1 qo a b)[48]? = some (stAd q0 q1 qo a b 63, rt_en (stAd q0 q1 qo a b) cA I0 L0 136 63) := rfl
theorem st_k64 : (stFlat cA q0 q1 qo a b)[49]? = some (stAd q0 q1 qo a b 64, rt_en (stAd q0 q1 qo a b) cA I0 L0 136 64) := rfl
theorem st_k65 : (stFlat cA q0 q1 qo a b)[50]? = some (stAd q0 q1 qo a b 65, rt_en (stAd q0 q1 qo a b) cA I0 L0 136 65) := rfl
theorem st_k66 : (stFlat cA q0 q1 qo a b)[51]? = some (stAd q0 q1 qo a b 66, rt_en (stAd q0 q1 qo a b) cA I0 L0 136 66) := rfl
theorem st_k67 : (stFlat cA q0 q1 qo a b)[52]? = some (stAd q0 q1 qo a b 67, rt_en (stAd q0 q1 qo a b) cA I0 L0 136 67) := rfl
theorem st_k68 : (stFlat cA q0 q1 qo a b)[53]? = some (stAd q0 q1 qo a b 68, rt_en (stAd q0 q1 qo a b) cA I0 L0 136 68) := rfl
theorem st_k69 : (stFlat cA q0 q1 qo a b)[54]? = some (stAd q0 q1 qo a b 69, rt_en (stAd q0 q1 qo a b) cA I0 L0 136 69) := rfl
theorem st_k70 : (stFlat cA q0 q1 qo a b)[55]? = some (stAd q0 q1 qo a b 70, rt_en (stAd q0 q1 qo a b) cA I0 L0 136 70) := rfl
theorem st_k71 : (stFlat cA q0 q1 qo a b)[56]? = some (stAd q0 q1 qo a b 71, rt_en (stAd q0 q1 qo a b) cA I0 L0 136 71) := rfl
theorem st_k72 : (stFlat cA q0 q1 qo a b)[57]? = some (stAd q0 q1 qo a b 72, rt_en (stAd q0 q1 qo a b) cA I0 L0 136 72) := rfl
theorem st_k73 : (stFlat cA q0 q1 qo a b)[58]? = some (stAd q0 q1 qo a b 73, rt_en (stAd q0 q1 qo a b) cA I0 L0 136 73) := rfl
theorem st_k74 : (stFlat cA q0 q1 qo a b)[59]? = some (stAd q0 q1 qo a b 74, rt_en (stAd q0 q1 qo a b) cA I0 L0 136 74) := rfl
theorem st_k75 : (stFlat cA q0 q1 qo a b)[60]? = some (stAd q0 q1 qo a b 75, rt_en (stAd q0 q1 qo a b) cA I0 L0 136 75) := rfl
theorem st_k76 : (stFlat cA q0 q1 qo a b)[61]? = some (stAd q0 q1 qo a b 76, rt_en (stAd q0 q1 qo a b) cA I0 L0 136 76) := rfl
theorem st_k77 : (stFlat cA q0 q1 qo a b)[62]? = some (stAd q0 q1 qo a b 77, rt_en (stAd q0 q1 qo a b) cA I0 L0 136 77) := rfl
theorem st_k78 : (stFlat cA q0 q1 qo a b)[63]? = some (stAd q0 q1 qo a b 78, rt_en (stAd q0 q1 qo a b) cA I0 L0 136 78) := rfl
theorem st_k79 : (stFlat cA q0 q1 qo a b)[64]? = some (stAd q0 q1 qo a b 79, rt_en (stAd q0 q1 qo a b) cA I0 L0 136 79) := rfl
theorem st_k80 : (stFlat cA q0 q1 qo a b)[65]? = some (stAd q0 q1 qo a b 80, rt_en (stAd q0 q1 qo a b) cA I0 L0 136 80) := rfl
theorem st_k81 : (stFlat cA q0 q1 qo a b)[66]? = some (stAd q0 q1 qo a b 81, rt_en (stAd q0 q1 qo a b) cA I0 L0 136 81) := rfl
theorem st_k82 : (stFlat cA q0 q1 qo a b)[67]? = some (stAd q0 q1 qo a b 82, rt_en (stAd q0 q1 qo a b) cA I0 L0 136 82) := rfl
theorem st_k83 : (stFlat cA q0 q1 qo a b)[68]? = some (stAd q0 q1 qo a b 83, rt_en (stAd q0 q1 qo a b) cA I0 L0 136 83) := rfl
theorem st_k84 : (stFlat cA q0 q1 qo a b)[69]? = some (stAd q0 q1 qo a b 84, rt_en (stAd q0 q1 qo a b) cA I0 L0 136 84) := rfl
theorem st_k85 : (stFlat cA q0 q1 qo a b)[70]? = some (stAd q0 q1 qo a b 85, rt_en (stAd q0 q1 qo a b) cA I0 L0 136 85) := rfl
theorem st_k86 : (stFlat cA q0 q1 qo a b)[71]? = some (stAd q0 q1 qo a b 86, rt_en (stAd q0 q1 qo a b) cA I0 L0 136 86) := rfl
theorem st_k87 : (stFlat cA q0 q1 qo a b)[72]? = some (stAd q0 q1 qo a b 87, rt_en (stAd q0 q1 qo a b) cA I0 L0 136 87) := rfl
theorem st_k88 : (stFlat cA q0 q1 qo a b)[73]? = some (stAd q0 q1 qo a b 88, rt_en (stAd q0 q1 qo a b) cA I0 L0 136 88) := rfl
theorem st_k89 : (stFlat cA q0 q1 qo a b)[74]? = some (stAd q0 q1 qo a b 89, rt_en (stAd q0 q1 qo a b) cA I0 L0 136 89) := rfl
theorem st_k90 : (stFlat cA q0 q1 qo a b)[75]? = some (stAd q0 q1 qo a b 90, rt_en (stAd q0 q1 qo a b) cA I0 L0 136 90) := rfl
theorem st_k91 : (stFlat cA q0 q1 qo a b)[76]? = some (stAd q0 q1 qo a b 91, rt_en (stAd q0 q1 qo a b) cA I0 L0 136 91) := rfl
theorem st_k92 : (stFlat cA q0 q1 qo a b)[77]? = some (stAd q0 q1 qo a b 92, rt_en (stAd q0 q1 qo a b) cA I0 L0 136 92) := rfl
theorem st_k93 : (stFlat cA q0 q1 qo a b)[78]? = some (stAd q0 q1 qo a b 93, rt_en (stAd q0 q1 qo a b) cA I0 L0 136 93) := rfl
theorem st_k94 : (stFlat cA q0 q1 qo a b)[79]? = some (stAd q0 q1 qo a b 94, rt_en (stAd q0 q1 qo a b) cA I0 L0 136 94) := rfl
theorem st_k95 : (stFlat cA q0 q1 qo a b)[80]? = some (stAd q0 q1 qo a b 95, rt_en (stAd q0 q1 qo a b) cA I0 L0 136 95) := rfl
theorem st_k96 : (stFlat cA q0 q1 qo a b)[81]? = some (stAd q0 q1 qo a b 96, rt_en (stAd q0 q1 qo a b) cA I0 L0 136 96) := rfl
theorem st_k97 : (stFlat cA q0 q1 qo a b)[82]? = some (stAd q0 q1 qo a b 97, rt_en (stAd q0 q1 qo a b) cA I0 L0 136 97) := rfl
theorem st_k98 : (stFlat cA q0 q1 qo a b)[83]? = some (stAd q0 q1 qo a b 98, rt_en (stAd q0 q1 qo a b) cA I0 L0 136 98) := rfl
theorem st_k99 : (stFlat cA q0 q1 qo a b)[84]? = some (stAd q0 q1 qo a b 99, rt_en (stAd q0 q1 qo a b) cA I0 L0 136 99) := rfl
theorem st_k100 : (stFlat cA q0 q1 qo a b)[85]? = some (stAd q0 q1 qo a b 100, rt_en (stAd q0 q1 qo a b) cA I0 L0 136 100) := rfl
theorem st_k101 : (stFlat cA q0 q1 qo a b)[86]? = some (stAd q0 q1 qo a b 101, rt_en (stAd q0 q1 qo a b) cA I0 L0 136 101) := rfl
theorem st_k102 : (stFlat cA q0 q1 qo a b)[87]? = some (stAd q0 q1 qo a b 102, rt_en (stAd q0 q1 qo a b) cA I0 L0 136 102) := rfl
theorem st_k103 : (stFlat cA q0 q1 qo a b)[88]? = some (stAd q0 q1 qo a b 103, rt_en (stAd q0 q1 qo a b) cA I0 L0 136 103) := rfl
theorem st_k104 : (stFlat cA q0 q1 qo a b)[25]? = some (stAd q0 q1 qo a b 104, rt_en (stAd q0 q1 qo a b) cA I0 L0 136 104) := rfl
theorem st_k105 : (stFlat cA q0 q1 qo a b)[26]? = some (stAd q0 q1 qo a b 105, rt_en (stAd q0 q1 qo a b) cA I0 L0 136 105) := rfl
theorem st_k106 : (stFlat cA q0 q1 qo a b)[27]? = some (stAd q0 q1 qo a b 106, rt_en (stAd q0 q1 qo a b) cA I0 L0 136 106) := rfl
theorem st_k107 : (stFlat cA q0 q1 qo a b)[28]? = some (stAd q0 q1 qo a b 107, rt_en (stAd q0 q1 qo a b) cA I0 L0 136 107) := rfl
set_option maxRecDepth 100000 in
theorem st_k108 : (stFlat cA q0 q1 qo a b)[108]? = some (stAd q0 q1 qo a b 108, rt_en (stAd q0 q1 qo a b) cA I0 L0 136 108) := rfl
theorem st_k109 : (stFlat cA q0 q1 qo a b)[109]? = some (stAd q0 q1 qo a b 109, rt_en (stAd q0 q1 qo a b) cA I0 L0 136 109) := rfl
theorem st_k110 : (stFlat cA q0 q1 qo a b)[110]? = some (stAd q0 q1 qo a b 110, rt_en (stAd q0 q1 qo a b) cA I0 L0 136 110) := rfl
theorem st_k111 : (stFlat cA q0 q1 qo a b)[111]? = some (stAd q0 q1 qo a b 111, rt_en (stAd q0 q1 qo a b) cA I0 L0 136 111) := rfl
theorem st_k112 : (stFlat cA q0 q1 qo a b)[112]? = some (stAd q0 q1 qo a b 112, rt_en (stAd q0 q1 qo a b) cA I0 L0 136 112) := rfl
theorem st_k113 : (stFlat cA q0 q1 qo a b)[113]? = some (stAd q0 q1 qo a b 113, rt_en (stAd q0 q1 qo a b) cA I0 L0 136 113) := rfl
theorem st_k114 : (stFlat cA q0 q1 qo a b)[114]? = some (stAd q0 q1 qo a b 114, rt_en (stAd q0 q1 qo a b) cA I0 L0 136 114) := rfl
theorem st_k115 : (stFlat cA q0 q1 qo a b)[115]? = some (stAd q0 q1 qo a b 115, rt_en (stAd q0 q1 qo a b) cA I0 L0 136 115) := rfl
theorem st_k116 : (stFlat cA q0 q1 qo a b)[116]? = some (stAd q0 q1 qo a b 116, rt_en (stAd q0 q1 qo a b) cA I0 L0 136 116) := rfl
theorem st_k117 : (stFlat cA q0 q1 qo a b)[117]? = some (stAd q0 q1 qo a b 117, rt_en (stAd q0 q1 qo a b) cA I0 L0 136 117) := rfl
theorem st_k118 : (stFlat cA q0 q1 qo a b)[118]? = some (stAd q0 q1 qo a b 118, rt_en (stAd q0 q1 qo a b) cA I0 L0 136 118) := rfl
theorem st_k119 : (stFlat cA q0 q1 qo a b)[119]? = some (stAd q0 q1 qo a b 119, rt_en (stAd q0 q1 qo a b) cA I0 L0 136 119) := rfl
theorem st_k120 : (stFlat cA q0 q1 qo a b)[120]? = some (stAd q0 q1 qo a b 120, rt_en (stAd q0 q1 qo a b) cA I0 L0 136 120) := rfl
theorem st_k121 : (stFlat cA q0 q1 qo a b)[121]? = some (stAd q0 q1 qo a b 121, rt_en (stAd q0 q1 qo a b) cA I0 L0 136 121) := rfl
theorem st_k122 : (stFlat cA q0 q1 qo a b)[122]? = some (stAd q0 q1 qo a b 122, rt_en (stAd q0 q1 qo a b) cA I0 L0 136 122) := rfl
theorem st_k123 : (stFlat cA q0 q1 qo a b)[123]? = some (stAd q0 q1 qo a b 123, rt_en (stAd q0 q1 qo a b) cA I0 L0 136 123) := rfl
theorem st_k124 : (stFlat cA q0 q1 qo a b)[124]? = some (stAd q0 q1 qo a b 124, rt_en (stAd q0 q1 qo a b) cA I0 L0 136 124) := rfl
theorem st_k125 : (stFlat cA q0 q1 qo a b)[125]? = some (stAd q0 q1 qo a b 125, rt_en (stAd q0 q1 qo a b) cA I0 L0 136 125) := rfl
theorem st_k126 : (stFlat cA q0 q1 qo a b)[126]? = some (stAd q0 q1 qo a b 126, rt_en (stAd q0 q1 qo a b) cA I0 L0 136 126) := rfl
theorem st_k127 : (stFlat cA q0 q1 qo a b)[127]? = some (stAd q0 q1 qo a b 127, rt_en (stAd q0 q1 qo a b) cA I0 L0 136 127) := rfl
theorem st_k128 : (stFlat cA q0 q1 qo a b)[128]? = some (stAd q0 q1 qo a b 128, rt_en (stAd q0 q1 qo a b) cA I0 L0 136 128) := rfl
theorem st_k129 : (stFlat cA q0 q1 qo a b)[129]? = some (stAd q0 q1 qo a b 129, rt_en (stAd q0 q1 qo a b) cA I0 L0 136 129) := rfl
theorem st_k130 : (stFlat cA q0 q1 qo a b)[130]? = some (stAd q0 q1 qo a b 130, rt_en (stAd q0 q1 qo a b) cA I0 L0 136 130) := rfl
theorem st_k131 : (stFlat cA q0 q1 qo a b)[131]? = some (stAd q0 q1 qo a b 131, rt_en (stAd q0 q1 qo a b) cA I0 L0 136 131) := rfl
theorem st_k132 : (stFlat cA q0 q1 qo a b)[132]? = some (stAd q0 q1 qo a b 132, rt_en (stAd q0 q1 qo a b) cA I0 L0 136 132) := rfl
theorem st_k133 : (stFlat cA q0 q1 qo a b)[133]? = some (stAd q0 q1 qo a b 133, rt_en (stAd q0 q1 qo a b) cA I0 L0 136 133) := rfl
theorem st_k134 : (stFlat cA q0 q1 qo a b)[134]? = some (stAd q0 q1 qo a b 134, rt_en (stAd q0 q1 qo a b) cA I0 L0 136 134) := rfl
theorem st_k135 : (stFlat cA q0 q1 qo a b)[135]? = some (stAd q0 q1 qo a b 135, rt_en (stAd q0 q1 qo a b) cA I0 L0 136 135) := rfl
set_option maxRecDepth 100000 in
theorem st_key : ∀ c, c < 136 → (stFlat cA q0 q1 qo a b)[stPos.getD c 0]? = some (stAd q0 q1 qo a b c, rt_en (stAd q0 q1 qo a b) cA I0 L0 136 c) := fun c hc => match c, hc with
  | 0, _ => st_k0
  | 1, _ => st_k1
  | 2, _ => st_k2
  | 3, _ => st_k3
  | 4, _ => st_k4
  | 5, _ => st_k5
  | 6, _ => st_k6
  | 7, _ => st_k7
  | 8, _ => st_k8
  | 9, _ => st_k9
  | 10, _ => st_k10
  | 11, _ => st_k11
  | 12, _ => st_k12
  | 13, _ => st_k13
  | 14, _ => st_k14
  | 15, _ => st_k15
  | 16, _ => st_k16
  | 17, _ => st_k17
  | 18, _ => st_k18
  | 19, _ => st_k19
  | 20, _ => st_k20
  | 21, _ => st_k21
  | 22, _ => st_k22
  | 23, _ => st_k23
  | 24, _ => st_k24
  | 25, _ => st_k25
  | 26, _ => st_k26
  | 27, _ => st_k27
  | 28, _ => st_k28
  | 29, _ => st_k29
  | 30, _ => st_k30
  | 31, _ => st_k31
  | 32, _ => st_k32
  | 33, _ => st_k33
  | 34, _ => st_k34
  | 35, _ => st_k35
  | 36, _ => st_k36
  | 37, _ => st_k37
  | 38, _ => st_k38
  | 39, _ => st_k39
  | 40, _ => st_k40
  | 41, _ => st_k41
  | 42, _ => st_k42
  | 43, _ => st_k43
  | 44, _ => st_k44
  | 45, _ => st_k45
  | 46, _ => st_k46
  | 47, _ => st_k47
  | 48, _ => st_k48
  | 49, _ => st_k49
  | 50, _ => st_k50
  | 51, _ => st_k51
  | 52, _ => st_k52
  | 53, _ => st_k53
  | 54, _ => st_k54
  | 55, _ => st_k55
  | 56, _ => st_k56
  | 57, _ => st_k57
  | 58, _ => st_k58
  | 59, _ => st_k59
  | 60, _ => st_k60
  | 61, _ => st_k61
  | 62, _ => st_k62
  | 63, _ => st_k63
  | 64, _ => st_k64
  | 65, _ => st_k65
  | 66, _ => st_k66
  | 67, _ => st_k67
  | 68, _ => st_k68
  | 69, _ => st_k69
  | 70, _ => st_k70
  | 71, _ => st_k71
  | 72, _ => st_k72
  | 73, _ => st_k73
  | 74, _ => st_k74
  | 75, _ => st_k75
  | 76, _ => st_k76
  | 77, _ => st_k77
  | 78, _ => st_k78
  | 79, _ => st_k79
  | 80, _ => st_k80
  | 81, _ => st_k81
  | 82, _ => st_k82
  | 83, _ => st_k83
  | 84, _ => st_k84
  | 85, _ => st_k85
  | 86, _ => st_k86
  | 87, _ => st_k87
  | 88, _ => st_k88
  | 89, _ => st_k89
  | 90, _ => st_k90
  | 91, _ => st_k91
  | 92, _ => st_k92
  | 93, _ => st_k93
  | 94, _ => st_k94
  | 95, _ => st_k95
  | 96, _ => st_k96
  | 97, _ => st_k97
  | 98, _ => st_k98
  | 99, _ => st_k99
  | 100, _ => st_k100
  | 101, _ => st_k101
  | 102, _ => st_k102
  | 103, _ => st_k103
  | 104, _ => st_k104
  | 105, _ => st_k105
  | 106, _ => st_k106
  | 107, _ => st_k107
  | 108, _ => st_k108
  | 109, _ => st_k109
  | 110, _ => st_k110
  | 111, _ => st_k111
  | 112, _ => st_k112
  | 113, _ => st_k113
  | 114, _ => st_k114
  | 115, _ => st_k115
  | 116, _ => st_k116
  | 117, _ => st_k117
  | 118, _ => st_k118
  | 119, _ => st_k119
  | 120, _ => st_k120
  | 121, _ => st_k121
  | 122, _ => st_k122
  | 123, _ => st_k123
  | 124, _ => st_k124
  | 125, _ => st_k125
  | 126, _ => st_k126
  | 127, _ => st_k127
  | 128, _ => st_k128
  | 129, _ => st_k129
  | 130, _ => st_k130
  | 131, _ => st_k131
  | 132, _ => st_k132
  | 133, _ => st_k133
  | 134, _ => st_k134
  | 135, _ => st_k135
  | c + 136, h => absurd h (by omega)
theorem st_inv : ∀ c : Fin 136, stOrd.getD (stPos.getD c.val 0) 0 = c.val := by decide +kernel
theorem st_P {H : Heap} (h : va_P (dC, dI) vwCl (stW (dC, dI, cA, stAd q0 q1 qo a b) q0 q1 qo a b) H) : rt_P (dC, dI, cA, stAd q0 q1 qo a b) I0 L0 136 H := by
  rw [st_flat] at h
  refine va_P.by h (fun c => stPos.getD c 0) (fun c q hq => ?_)
  have hc : c < 136 := by
    have := (List.getElem?_eq_some_iff.mp hq).1
    simpa [rt_W, rt_NC] using this
  rw [st_key c hc]
  have := rt_W_at (G := (dC, dI, cA, stAd q0 q1 qo a b)) (I := I0) (L := L0) (r := 136) (show c < rt_NC from hc)
  exact this.symm.trans hq
theorem st_J {A : Nat → Prop} (h : va_D A (stW (dC, dI, cA, stAd q0 q1 qo a b) q0 q1 qo a b)) : rt_J (dC, dI, cA, stAd q0 q1 qo a b) := by
  rw [st_flat] at h
  intro i j hi hj e
  have h1 := h.1 _ _ _ _ (st_key i hi) (st_key j hj) e
  have h2 := st_inv ⟨i, hi⟩
  have h3 := st_inv ⟨j, hj⟩
  dsimp only at h2 h3
  rw [← h2, h1, h3]
theorem st_A {A : Nat → Prop} (h : va_D A (stW (dC, dI, cA, stAd q0 q1 qo a b) q0 q1 qo a b)) : ∀ q, rt_A (dC, dI, cA, stAd q0 q1 qo a b) q → A q := by
  rw [st_flat] at h
  rintro q ⟨c, hc, rfl⟩
  exact h.2 _ _ (st_key c hc)
end
