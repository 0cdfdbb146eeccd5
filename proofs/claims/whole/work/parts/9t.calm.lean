/-! THE FOUR THAT MAY THROW: their calm ends -/
def i_X11_place_521 : List (Instr × Nat) := [(.aload_n 0, 1), (.getfield 33, 3), (.getfield 144, 3), (.iload_n 1, 1), (.iaload, 1), (.ireturn, 1)]
set_option maxRecDepth 10000 in
theorem v_X11_place_52 {G : rt_G} {d : Nat} {Q : rt_Q} (x1 : Int32) (I : rt_I) (L : rt_L) (r : Nat) (h : (vp_in x1 8 ∧ Q (I 13 (x1.toNatClampNeg)) I L r)) : rt_AW G (d + 1) kX11_place Q 52 [some (.ref 0), some (.int x1), none] [] I L r :=
  @rt_blk G (d + 1) kX11_place Q zX11 zX11_ok i_X11_place_521 52 [some (.ref 0), some (.int x1), none] [] I L r (by decide +kernel) (And.intro h.1 (h.2))
def i_X11_place_621 : List (Instr × Nat) := [(.aload_n 0, 1), (.getfield 33, 3), (.iload_n 1, 1), (.invokevirtual 148, 3), (.ireturn, 1)]
set_option maxRecDepth 10000 in
theorem v_X11_place_62 {G : rt_G} {d : Nat} {Q : rt_Q} (x1 : Int32) (I : rt_I) (L : rt_L) (r : Nat) (h : rt_Call G d kX2_roadsAt [.ref 12, .int x1] I L r (fun v1 I1 L1 r1 => Q v1 I1 L1 r1)) : rt_AW G (d + 1) kX11_place Q 62 [some (.ref 0), some (.int x1), none] [] I L r :=
  @rt_blk G (d + 1) kX11_place Q zX11 zX11_ok i_X11_place_621 62 [some (.ref 0), some (.int x1), none] [] I L r (by decide +kernel) (And.intro rfl h)
def i_X11_place_711 : List (Instr × Nat) := [(.aload_n 0, 1), (.getfield 33, 3), (.iload_n 1, 1), (.invokevirtual 148, 3), (.aload_n 0, 1), (.getfield 42, 3), (.aload_n 0, 1), (.getfield 33, 3), (.getfield 152, 3), (.getfield 156, 3), (.invokevirtual 161, 3), (.iand, 1), (.ireturn, 1)]
set_option maxRecDepth 10000 in
theorem v_X11_place_71 {G : rt_G} {d : Nat} {Q : rt_Q} (x1 : Int32) (I : rt_I) (L : rt_L) (r : Nat) (h : rt_Call G d kX2_roadsAt [.ref 12, .int x1] I L r (fun v1 I1 L1 r1 => rt_Call G d kX9_roadsThereAt [.ref 20, .int (I1 16 0)] I1 L1 r1 (fun v2 I2 L2 r2 => Q (v1 &&& v2) I2 L2 r2))) : rt_AW G (d + 1) kX11_place Q 71 [some (.ref 0), some (.int x1), none] [] I L r :=
  @rt_blk G (d + 1) kX11_place Q zX11 zX11_ok i_X11_place_711 71 [some (.ref 0), some (.int x1), none] [] I L r (by decide +kernel) (And.intro rfl (rt_Call_mono h (fun v1 I1 L1 r1 h1 => And.intro rfl h1)))
def i_X11_place_981 : List (Instr × Nat) := [(.aload_n 0, 1), (.getfield 33, 3), (.getfield 152, 3), (.iconst 0, 1), (.iload_n 1, 1), (.invokevirtual 164, 3), (.ireturn, 1)]
set_option maxRecDepth 10000 in
theorem v_X11_place_98 {G : rt_G} {d : Nat} {Q : rt_Q} (x1 : Int32) (I : rt_I) (L : rt_L) (r : Nat) (h : rt_Call G d kX4_cartsWith [.ref 16, .int (0 : Int32), .int x1] I L r (fun v1 I1 L1 r1 => Q v1 I1 L1 r1)) : rt_AW G (d + 1) kX11_place Q 98 [some (.ref 0), some (.int x1), none] [] I L r :=
  @rt_blk G (d + 1) kX11_place Q zX11 zX11_ok i_X11_place_981 98 [some (.ref 0), some (.int x1), none] [] I L r (by decide +kernel) (And.intro rfl h)
def i_X11_road_921 : List (Instr × Nat) := [(.iload_n 3, 1), (.ireturn, 1)]
set_option maxRecDepth 10000 in
theorem v_X11_road_92 {G : rt_G} {d : Nat} {Q : rt_Q} (x3 : Int32) (I : rt_I) (L : rt_L) (r : Nat) (h : Q x3 I L r) : rt_AW G (d + 1) kX11_road Q 92 [none, none, none, some (.int x3), none] [] I L r :=
  @rt_blk G (d + 1) kX11_road Q zX11 zX11_ok i_X11_road_921 92 [none, none, none, some (.int x3), none] [] I L r (by decide +kernel) h
def i_X11_road_941 : List (Instr × Nat) := [(.iload 4, 2), (.ireturn, 1)]
set_option maxRecDepth 10000 in
theorem v_X11_road_94 {G : rt_G} {d : Nat} {Q : rt_Q} (x4 : Int32) (I : rt_I) (L : rt_L) (r : Nat) (h : Q x4 I L r) : rt_AW G (d + 1) kX11_road Q 94 [none, none, none, none, some (.int x4)] [] I L r :=
  @rt_blk G (d + 1) kX11_road Q zX11 zX11_ok i_X11_road_941 94 [none, none, none, none, some (.int x4)] [] I L r (by decide +kernel) h
def i_X11_road_971 : List (Instr × Nat) := [(.aload_n 0, 1), (.getfield 33, 3), (.getfield 177, 3), (.iload_n 1, 1), (.iaload, 1), (.ireturn, 1)]
set_option maxRecDepth 10000 in
theorem v_X11_road_97 {G : rt_G} {d : Nat} {Q : rt_Q} (x1 : Int32) (I : rt_I) (L : rt_L) (r : Nat) (h : (vp_in x1 12 ∧ Q (I 14 (x1.toNatClampNeg)) I L r)) : rt_AW G (d + 1) kX11_road Q 97 [some (.ref 0), some (.int x1), none, none, none] [] I L r :=
  @rt_blk G (d + 1) kX11_road Q zX11 zX11_ok i_X11_road_971 97 [some (.ref 0), some (.int x1), none, none, none] [] I L r (by decide +kernel) (And.intro h.1 (h.2))
def i_X11_road_1071 : List (Instr × Nat) := [(.aload_n 0, 1), (.getfield 33, 3), (.getfield 180, 3), (.iload_n 1, 1), (.iaload, 1), (.ireturn, 1)]
set_option maxRecDepth 10000 in
theorem v_X11_road_107 {G : rt_G} {d : Nat} {Q : rt_Q} (x1 : Int32) (I : rt_I) (L : rt_L) (r : Nat) (h : (vp_in x1 12 ∧ Q (I 15 (x1.toNatClampNeg)) I L r)) : rt_AW G (d + 1) kX11_road Q 107 [some (.ref 0), some (.int x1), none, none, none] [] I L r :=
  @rt_blk G (d + 1) kX11_road Q zX11 zX11_ok i_X11_road_1071 107 [some (.ref 0), some (.int x1), none, none, none] [] I L r (by decide +kernel) (And.intro h.1 (h.2))
def i_X11_road_1171 : List (Instr × Nat) := [(.iconst 0, 1), (.ireturn, 1)]
def i_X11_road_1172 : List (Instr × Nat) := [(.ireturn, 1)]
def i_X11_road_1173 : List (Instr × Nat) := [(.aload_n 0, 1), (.getfield 42, 3), (.iload_n 1, 1), (.aload_n 0, 1), (.getfield 33, 3), (.getfield 152, 3), (.getfield 156, 3), (.invokevirtual 183, 3), (.ifCond .eq 7, 3), (.iconst 1, 1), (.goto 4, 3)]
set_option maxRecDepth 10000 in
theorem v_X11_road_117 {G : rt_G} {d : Nat} {Q : rt_Q} (x1 : Int32) (I : rt_I) (L : rt_L) (r : Nat) (h : rt_Call G d kX9_isThere [.ref 20, .int x1, .int (I 16 0)] I L r (fun v1 I1 L1 r1 => ((v1 = 0 → Q (0 : Int32) I1 L1 r1) ∧ (¬ v1 = 0 → Q (1 : Int32) I1 L1 r1)))) : rt_AW G (d + 1) kX11_road Q 117 [some (.ref 0), some (.int x1), none, none, none] [] I L r :=
  @rt_blk G (d + 1) kX11_road Q zX11 zX11_ok i_X11_road_1173 117 [some (.ref 0), some (.int x1), none, none, none] [] I L r (by decide +kernel) (And.intro rfl (rt_Call_mono h (fun v1 I1 L1 r1 h1 => And.intro (fun q1 => @rt_blk G (d + 1) kX11_road Q zX11 zX11_ok i_X11_road_1171 142 [some (.ref 0), some (.int x1), none, none, none] [] I1 L1 r1 (by decide +kernel) (h1.1 q1)) (fun q2 => @rt_blk G (d + 1) kX11_road Q zX11 zX11_ok i_X11_road_1172 143 [some (.ref 0), some (.int x1), none, none, none] [.int (1 : Int32)] I1 L1 r1 (by decide +kernel) (h1.2 q2)))))
def i_X11_road_1441 : List (Instr × Nat) := [(.aload_n 0, 1), (.getfield 33, 3), (.getfield 152, 3), (.iconst 1, 1), (.iload_n 1, 1), (.invokevirtual 164, 3), (.ireturn, 1)]
set_option maxRecDepth 10000 in
theorem v_X11_road_144 {G : rt_G} {d : Nat} {Q : rt_Q} (x1 : Int32) (I : rt_I) (L : rt_L) (r : Nat) (h : rt_Call G d kX4_cartsWith [.ref 16, .int (1 : Int32), .int x1] I L r (fun v1 I1 L1 r1 => Q v1 I1 L1 r1)) : rt_AW G (d + 1) kX11_road Q 144 [some (.ref 0), some (.int x1), none, none, none] [] I L r :=
  @rt_blk G (d + 1) kX11_road Q zX11 zX11_ok i_X11_road_1441 144 [some (.ref 0), some (.int x1), none, none, none] [] I L r (by decide +kernel) (And.intro rfl h)
def i_X11_road_1571 : List (Instr × Nat) := [(.aload_n 0, 1), (.getfield 42, 3), (.iload_n 1, 1), (.iload_n 3, 1), (.iload 4, 2), (.iconst 0, 1), (.invokevirtual 187, 3), (.ireturn, 1)]
set_option maxRecDepth 10000 in
theorem v_X11_road_157 {G : rt_G} {d : Nat} {Q : rt_Q} (x1 : Int32) (x3 : Int32) (x4 : Int32) (I : rt_I) (L : rt_L) (r : Nat) (h : rt_Call G d kX9_turnsBy [.ref 20, .int x1, .int x3, .int x4, .int (0 : Int32)] I L r (fun v1 I1 L1 r1 => Q v1 I1 L1 r1)) : rt_AW G (d + 1) kX11_road Q 157 [some (.ref 0), some (.int x1), none, some (.int x3), some (.int x4)] [] I L r :=
  @rt_blk G (d + 1) kX11_road Q zX11 zX11_ok i_X11_road_1571 157 [some (.ref 0), some (.int x1), none, some (.int x3), some (.int x4)] [] I L r (by decide +kernel) (And.intro rfl h)
def i_X11_road_1701 : List (Instr × Nat) := [(.aload_n 0, 1), (.getfield 42, 3), (.iload_n 1, 1), (.iload 4, 2), (.iload_n 3, 1), (.iconst 0, 1), (.invokevirtual 187, 3), (.ireturn, 1)]
set_option maxRecDepth 10000 in
theorem v_X11_road_170 {G : rt_G} {d : Nat} {Q : rt_Q} (x1 : Int32) (x3 : Int32) (x4 : Int32) (I : rt_I) (L : rt_L) (r : Nat) (h : rt_Call G d kX9_turnsBy [.ref 20, .int x1, .int x4, .int x3, .int (0 : Int32)] I L r (fun v1 I1 L1 r1 => Q v1 I1 L1 r1)) : rt_AW G (d + 1) kX11_road Q 170 [some (.ref 0), some (.int x1), none, some (.int x3), some (.int x4)] [] I L r :=
  @rt_blk G (d + 1) kX11_road Q zX11 zX11_ok i_X11_road_1701 170 [some (.ref 0), some (.int x1), none, some (.int x3), some (.int x4)] [] I L r (by decide +kernel) (And.intro rfl h)
def i_X11_cart_291 : List (Instr × Nat) := [(.aload_n 0, 1), (.getfield 33, 3), (.getfield 152, 3), (.iload_n 1, 1), (.iload_n 2, 1), (.invokevirtual 194, 3), (.ireturn, 1)]
set_option maxRecDepth 10000 in
theorem v_X11_cart_29 {G : rt_G} {d : Nat} {Q : rt_Q} (x1 : Int32) (x2 : Int32) (I : rt_I) (L : rt_L) (r : Nat) (h : rt_Call G d kX4_of [.ref 16, .int x1, .int x2] I L r (fun v1 I1 L1 r1 => Q v1 I1 L1 r1)) : rt_AW G (d + 1) kX11_cart Q 29 [some (.ref 0), some (.int x1), some (.int x2)] [] I L r :=
  @rt_blk G (d + 1) kX11_cart Q zX11 zX11_ok i_X11_cart_291 29 [some (.ref 0), some (.int x1), some (.int x2)] [] I L r (by decide +kernel) (And.intro rfl h)
def i_X11_row_231 : List (Instr × Nat) := [(.aload_n 0, 1), (.getfield 79, 3), (.getfield 393, 3), (.iload_n 1, 1), (.iaload, 1), (.ireturn, 1)]
set_option maxRecDepth 10000 in
theorem v_X11_row_23 {G : rt_G} {d : Nat} {Q : rt_Q} (x1 : Int32) (I : rt_I) (L : rt_L) (r : Nat) (h : (vp_in x1 16 ∧ Q (I 43 (x1.toNatClampNeg)) I L r)) : rt_AW G d kX11_row Q 23 [some (.ref 0), some (.int x1)] [] I L r :=
  @rt_blk G d kX11_row Q zX11 zX11_ok i_X11_row_231 23 [some (.ref 0), some (.int x1)] [] I L r (by decide +kernel) (And.intro h.1 (h.2))
