theorem rt_br_imp {cd : Jvm.ClassFile.Cond} {x y : Int32} {A A' B B' : Prop} (ha : A → A') (hb : B → B') (h : rt_br cd x y A B) : rt_br cd x y A' B' := by
  cases cd <;> exact ⟨fun q => ha (h.1 q), fun q => hb (h.2 q)⟩
theorem rt_o_iadd {G : rt_G} {d : Nat} {K : rt_K} {Q : rt_Q} {pc : Nat} {lv : rt_V} {I : rt_I} {L : rt_L} {r : Nat} {t : List Value} {y : Int32} {x : Int32} (hd : decode K.2.1 pc = .ok (.iadd, 1))  (h : rt_AW G d K Q (pc + 1) lv (.int (x + y) :: t) I L r) : rt_AW G d K Q pc lv (.int y :: .int x :: t) I L r :=
  fun l p e s m args below meth c H locs ls C hP hS hl => lv_iadd C.1 C.2.1 hd  (h l p e s m args below meth c H locs ls C hP hS hl)
theorem rt_o_isub {G : rt_G} {d : Nat} {K : rt_K} {Q : rt_Q} {pc : Nat} {lv : rt_V} {I : rt_I} {L : rt_L} {r : Nat} {t : List Value} {y : Int32} {x : Int32} (hd : decode K.2.1 pc = .ok (.isub, 1))  (h : rt_AW G d K Q (pc + 1) lv (.int (x - y) :: t) I L r) : rt_AW G d K Q pc lv (.int y :: .int x :: t) I L r :=
  fun l p e s m args below meth c H locs ls C hP hS hl => lv_isub C.1 C.2.1 hd  (h l p e s m args below meth c H locs ls C hP hS hl)
theorem rt_o_imul {G : rt_G} {d : Nat} {K : rt_K} {Q : rt_Q} {pc : Nat} {lv : rt_V} {I : rt_I} {L : rt_L} {r : Nat} {t : List Value} {y : Int32} {x : Int32} (hd : decode K.2.1 pc = .ok (.imul, 1))  (h : rt_AW G d K Q (pc + 1) lv (.int (x * y) :: t) I L r) : rt_AW G d K Q pc lv (.int y :: .int x :: t) I L r :=
  fun l p e s m args below meth c H locs ls C hP hS hl => lv_imul C.1 C.2.1 hd  (h l p e s m args below meth c H locs ls C hP hS hl)
theorem rt_o_iand {G : rt_G} {d : Nat} {K : rt_K} {Q : rt_Q} {pc : Nat} {lv : rt_V} {I : rt_I} {L : rt_L} {r : Nat} {t : List Value} {y : Int32} {x : Int32} (hd : decode K.2.1 pc = .ok (.iand, 1))  (h : rt_AW G d K Q (pc + 1) lv (.int (x &&& y) :: t) I L r) : rt_AW G d K Q pc lv (.int y :: .int x :: t) I L r :=
  fun l p e s m args below meth c H locs ls C hP hS hl => lv_iand C.1 C.2.1 hd  (h l p e s m args below meth c H locs ls C hP hS hl)
theorem rt_o_ior {G : rt_G} {d : Nat} {K : rt_K} {Q : rt_Q} {pc : Nat} {lv : rt_V} {I : rt_I} {L : rt_L} {r : Nat} {t : List Value} {y : Int32} {x : Int32} (hd : decode K.2.1 pc = .ok (.ior, 1))  (h : rt_AW G d K Q (pc + 1) lv (.int (x ||| y) :: t) I L r) : rt_AW G d K Q pc lv (.int y :: .int x :: t) I L r :=
  fun l p e s m args below meth c H locs ls C hP hS hl => lv_ior C.1 C.2.1 hd  (h l p e s m args below meth c H locs ls C hP hS hl)
theorem rt_o_ixor {G : rt_G} {d : Nat} {K : rt_K} {Q : rt_Q} {pc : Nat} {lv : rt_V} {I : rt_I} {L : rt_L} {r : Nat} {t : List Value} {y : Int32} {x : Int32} (hd : decode K.2.1 pc = .ok (.ixor, 1))  (h : rt_AW G d K Q (pc + 1) lv (.int (x ^^^ y) :: t) I L r) : rt_AW G d K Q pc lv (.int y :: .int x :: t) I L r :=
  fun l p e s m args below meth c H locs ls C hP hS hl => lv_ixor C.1 C.2.1 hd  (h l p e s m args below meth c H locs ls C hP hS hl)
theorem rt_o_ishl {G : rt_G} {d : Nat} {K : rt_K} {Q : rt_Q} {pc : Nat} {lv : rt_V} {I : rt_I} {L : rt_L} {r : Nat} {t : List Value} {y : Int32} {x : Int32} (hd : decode K.2.1 pc = .ok (.ishl, 1))  (h : rt_AW G d K Q (pc + 1) lv (.int (x <<< (y &&& 31)) :: t) I L r) : rt_AW G d K Q pc lv (.int y :: .int x :: t) I L r :=
  fun l p e s m args below meth c H locs ls C hP hS hl => lv_ishl C.1 C.2.1 hd  (h l p e s m args below meth c H locs ls C hP hS hl)
theorem rt_o_ishr {G : rt_G} {d : Nat} {K : rt_K} {Q : rt_Q} {pc : Nat} {lv : rt_V} {I : rt_I} {L : rt_L} {r : Nat} {t : List Value} {y : Int32} {x : Int32} (hd : decode K.2.1 pc = .ok (.ishr, 1))  (h : rt_AW G d K Q (pc + 1) lv (.int (x >>> (y &&& 31)) :: t) I L r) : rt_AW G d K Q pc lv (.int y :: .int x :: t) I L r :=
  fun l p e s m args below meth c H locs ls C hP hS hl => lv_ishr C.1 C.2.1 hd  (h l p e s m args below meth c H locs ls C hP hS hl)
theorem rt_o_idiv {G : rt_G} {d : Nat} {K : rt_K} {Q : rt_Q} {pc : Nat} {lv : rt_V} {I : rt_I} {L : rt_L} {r : Nat} {t : List Value} {y : Int32} {x : Int32} (hd : decode K.2.1 pc = .ok (.idiv, 1))  (hs : ¬ y = 0) (h : rt_AW G d K Q (pc + 1) lv (.int (x / y) :: t) I L r) : rt_AW G d K Q pc lv (.int y :: .int x :: t) I L r :=
  fun l p e s m args below meth c H locs ls C hP hS hl => lv_idiv C.1 C.2.1 hd hs (h l p e s m args below meth c H locs ls C hP hS hl)
theorem rt_o_irem {G : rt_G} {d : Nat} {K : rt_K} {Q : rt_Q} {pc : Nat} {lv : rt_V} {I : rt_I} {L : rt_L} {r : Nat} {t : List Value} {y : Int32} {x : Int32} (hd : decode K.2.1 pc = .ok (.irem, 1))  (hs : ¬ y = 0) (h : rt_AW G d K Q (pc + 1) lv (.int (rt_rem x y) :: t) I L r) : rt_AW G d K Q pc lv (.int y :: .int x :: t) I L r :=
  fun l p e s m args below meth c H locs ls C hP hS hl => lv_irem C.1 C.2.1 hd hs (h l p e s m args below meth c H locs ls C hP hS hl)
theorem rt_o_iushr {G : rt_G} {d : Nat} {K : rt_K} {Q : rt_Q} {pc : Nat} {lv : rt_V} {I : rt_I} {L : rt_L} {r : Nat} {t : List Value} {y : Int32} {x : Int32} (hd : decode K.2.1 pc = .ok (.iushr, 1))  (h : rt_AW G d K Q (pc + 1) lv (.int (rt_ushr x y) :: t) I L r) : rt_AW G d K Q pc lv (.int y :: .int x :: t) I L r :=
  fun l p e s m args below meth c H locs ls C hP hS hl => lv_iushr C.1 C.2.1 hd rfl (h l p e s m args below meth c H locs ls C hP hS hl)
theorem rt_o_ineg {G : rt_G} {d : Nat} {K : rt_K} {Q : rt_Q} {pc : Nat} {lv : rt_V} {I : rt_I} {L : rt_L} {r : Nat} {t : List Value} {x : Int32} (hd : decode K.2.1 pc = .ok (.ineg, 1))  (h : rt_AW G d K Q (pc + 1) lv (.int (-x) :: t) I L r) : rt_AW G d K Q pc lv (.int x :: t) I L r :=
  fun l p e s m args below meth c H locs ls C hP hS hl => lv_ineg C.1 C.2.1 hd  (h l p e s m args below meth c H locs ls C hP hS hl)
theorem rt_o_ladd {G : rt_G} {d : Nat} {K : rt_K} {Q : rt_Q} {pc : Nat} {lv : rt_V} {I : rt_I} {L : rt_L} {r : Nat} {t : List Value} {y : Int64} {x : Int64} (hd : decode K.2.1 pc = .ok (.ladd, 1))  (h : rt_AW G d K Q (pc + 1) lv (.long (x + y) :: t) I L r) : rt_AW G d K Q pc lv (.long y :: .long x :: t) I L r :=
  fun l p e s m args below meth c H locs ls C hP hS hl => lv_ladd C.1 C.2.1 hd  (h l p e s m args below meth c H locs ls C hP hS hl)
theorem rt_o_lsub {G : rt_G} {d : Nat} {K : rt_K} {Q : rt_Q} {pc : Nat} {lv : rt_V} {I : rt_I} {L : rt_L} {r : Nat} {t : List Value} {y : Int64} {x : Int64} (hd : decode K.2.1 pc = .ok (.lsub, 1))  (h : rt_AW G d K Q (pc + 1) lv (.long (x - y) :: t) I L r) : rt_AW G d K Q pc lv (.long y :: .long x :: t) I L r :=
  fun l p e s m args below meth c H locs ls C hP hS hl => lv_lsub C.1 C.2.1 hd  (h l p e s m args below meth c H locs ls C hP hS hl)
theorem rt_o_lmul {G : rt_G} {d : Nat} {K : rt_K} {Q : rt_Q} {pc : Nat} {lv : rt_V} {I : rt_I} {L : rt_L} {r : Nat} {t : List Value} {y : Int64} {x : Int64} (hd : decode K.2.1 pc = .ok (.lmul, 1))  (h : rt_AW G d K Q (pc + 1) lv (.long (x * y) :: t) I L r) : rt_AW G d K Q pc lv (.long y :: .long x :: t) I L r :=
  fun l p e s m args below meth c H locs ls C hP hS hl => lv_lmul C.1 C.2.1 hd  (h l p e s m args below meth c H locs ls C hP hS hl)
theorem rt_o_land {G : rt_G} {d : Nat} {K : rt_K} {Q : rt_Q} {pc : Nat} {lv : rt_V} {I : rt_I} {L : rt_L} {r : Nat} {t : List Value} {y : Int64} {x : Int64} (hd : decode K.2.1 pc = .ok (.land, 1))  (h : rt_AW G d K Q (pc + 1) lv (.long (x &&& y) :: t) I L r) : rt_AW G d K Q pc lv (.long y :: .long x :: t) I L r :=
  fun l p e s m args below meth c H locs ls C hP hS hl => lv_land C.1 C.2.1 hd  (h l p e s m args below meth c H locs ls C hP hS hl)
theorem rt_o_lor {G : rt_G} {d : Nat} {K : rt_K} {Q : rt_Q} {pc : Nat} {lv : rt_V} {I : rt_I} {L : rt_L} {r : Nat} {t : List Value} {y : Int64} {x : Int64} (hd : decode K.2.1 pc = .ok (.lor, 1))  (h : rt_AW G d K Q (pc + 1) lv (.long (x ||| y) :: t) I L r) : rt_AW G d K Q pc lv (.long y :: .long x :: t) I L r :=
  fun l p e s m args below meth c H locs ls C hP hS hl => lv_lor C.1 C.2.1 hd  (h l p e s m args below meth c H locs ls C hP hS hl)
theorem rt_o_lcmp {G : rt_G} {d : Nat} {K : rt_K} {Q : rt_Q} {pc : Nat} {lv : rt_V} {I : rt_I} {L : rt_L} {r : Nat} {t : List Value} {y : Int64} {x : Int64} (hd : decode K.2.1 pc = .ok (.lcmp, 1))  (h : rt_AW G d K Q (pc + 1) lv (.int (lg_cmp x y) :: t) I L r) : rt_AW G d K Q pc lv (.long y :: .long x :: t) I L r :=
  fun l p e s m args below meth c H locs ls C hP hS hl => W.lcmp C.1 C.2.1 hd  (h l p e s m args below meth c H locs ls C hP hS hl)
theorem rt_o_lshl {G : rt_G} {d : Nat} {K : rt_K} {Q : rt_Q} {pc : Nat} {lv : rt_V} {I : rt_I} {L : rt_L} {r : Nat} {t : List Value} {y : Int32} {x : Int64} (hd : decode K.2.1 pc = .ok (.lshl, 1))  (h : rt_AW G d K Q (pc + 1) lv (.long (x <<< (y.toInt64 &&& 63)) :: t) I L r) : rt_AW G d K Q pc lv (.int y :: .long x :: t) I L r :=
  fun l p e s m args below meth c H locs ls C hP hS hl => lv_lshl C.1 C.2.1 hd rfl (h l p e s m args below meth c H locs ls C hP hS hl)
theorem rt_o_lushr {G : rt_G} {d : Nat} {K : rt_K} {Q : rt_Q} {pc : Nat} {lv : rt_V} {I : rt_I} {L : rt_L} {r : Nat} {t : List Value} {y : Int32} {x : Int64} (hd : decode K.2.1 pc = .ok (.lushr, 1))  (h : rt_AW G d K Q (pc + 1) lv (.long (rt_lushr x y) :: t) I L r) : rt_AW G d K Q pc lv (.int y :: .long x :: t) I L r :=
  fun l p e s m args below meth c H locs ls C hP hS hl => lv_lushr C.1 C.2.1 hd rfl (h l p e s m args below meth c H locs ls C hP hS hl)
theorem rt_o_i2l {G : rt_G} {d : Nat} {K : rt_K} {Q : rt_Q} {pc : Nat} {lv : rt_V} {I : rt_I} {L : rt_L} {r : Nat} {t : List Value} {x : Int32} (hd : decode K.2.1 pc = .ok (.i2l, 1))  (h : rt_AW G d K Q (pc + 1) lv (.long x.toInt64 :: t) I L r) : rt_AW G d K Q pc lv (.int x :: t) I L r :=
  fun l p e s m args below meth c H locs ls C hP hS hl => lv_i2l C.1 C.2.1 hd rfl (h l p e s m args below meth c H locs ls C hP hS hl)
theorem rt_o_l2i {G : rt_G} {d : Nat} {K : rt_K} {Q : rt_Q} {pc : Nat} {lv : rt_V} {I : rt_I} {L : rt_L} {r : Nat} {t : List Value} {x : Int64} (hd : decode K.2.1 pc = .ok (.l2i, 1))  (h : rt_AW G d K Q (pc + 1) lv (.int x.toInt32 :: t) I L r) : rt_AW G d K Q pc lv (.long x :: t) I L r :=
  fun l p e s m args below meth c H locs ls C hP hS hl => lv_l2i C.1 C.2.1 hd rfl (h l p e s m args below meth c H locs ls C hP hS hl)
theorem rt_o_i2b {G : rt_G} {d : Nat} {K : rt_K} {Q : rt_Q} {pc : Nat} {lv : rt_V} {I : rt_I} {L : rt_L} {r : Nat} {t : List Value} {x : Int32} (hd : decode K.2.1 pc = .ok (.i2b, 1))  (h : rt_AW G d K Q (pc + 1) lv (.int x.toInt8.toInt32 :: t) I L r) : rt_AW G d K Q pc lv (.int x :: t) I L r :=
  fun l p e s m args below meth c H locs ls C hP hS hl => lv_i2b C.1 C.2.1 hd rfl (h l p e s m args below meth c H locs ls C hP hS hl)
theorem rt_o_i2s {G : rt_G} {d : Nat} {K : rt_K} {Q : rt_Q} {pc : Nat} {lv : rt_V} {I : rt_I} {L : rt_L} {r : Nat} {t : List Value} {x : Int32} (hd : decode K.2.1 pc = .ok (.i2s, 1))  (h : rt_AW G d K Q (pc + 1) lv (.int x.toInt16.toInt32 :: t) I L r) : rt_AW G d K Q pc lv (.int x :: t) I L r :=
  fun l p e s m args below meth c H locs ls C hP hS hl => lv_i2s C.1 C.2.1 hd rfl (h l p e s m args below meth c H locs ls C hP hS hl)
theorem rt_o_i2c {G : rt_G} {d : Nat} {K : rt_K} {Q : rt_Q} {pc : Nat} {lv : rt_V} {I : rt_I} {L : rt_L} {r : Nat} {t : List Value} {x : Int32} (hd : decode K.2.1 pc = .ok (.i2c, 1))  (h : rt_AW G d K Q (pc + 1) lv (.int (x.toUInt32 % 65536).toInt32 :: t) I L r) : rt_AW G d K Q pc lv (.int x :: t) I L r :=
  fun l p e s m args below meth c H locs ls C hP hS hl => lv_i2c C.1 C.2.1 hd rfl (h l p e s m args below meth c H locs ls C hP hS hl)
theorem rt_o_dup {G : rt_G} {d : Nat} {K : rt_K} {Q : rt_Q} {pc : Nat} {lv : rt_V} {I : rt_I} {L : rt_L} {r : Nat} {t : List Value} {v : Value} (hd : decode K.2.1 pc = .ok (.dup, 1)) (cv : v.category = 1) (h : rt_AW G d K Q (pc + 1) lv (v :: v :: t) I L r) : rt_AW G d K Q pc lv (v :: t) I L r :=
  fun l p e s m args below meth c H locs ls C hP hS hl => lv_dup C.1 C.2.1 hd (by rw [rt_v_cat]; exact cv) (h l p e s m args below meth c H locs ls C hP hS hl)
theorem rt_o_pop {G : rt_G} {d : Nat} {K : rt_K} {Q : rt_Q} {pc : Nat} {lv : rt_V} {I : rt_I} {L : rt_L} {r : Nat} {t : List Value} {v : Value} (hd : decode K.2.1 pc = .ok (.pop, 1)) (cv : v.category = 1) (h : rt_AW G d K Q (pc + 1) lv (t) I L r) : rt_AW G d K Q pc lv (v :: t) I L r :=
  fun l p e s m args below meth c H locs ls C hP hS hl => lv_pop C.1 C.2.1 hd (by rw [rt_v_cat]; exact cv) (h l p e s m args below meth c H locs ls C hP hS hl)
theorem rt_o_dup_x1 {G : rt_G} {d : Nat} {K : rt_K} {Q : rt_Q} {pc : Nat} {lv : rt_V} {I : rt_I} {L : rt_L} {r : Nat} {t : List Value} {v : Value} {w : Value} (hd : decode K.2.1 pc = .ok (.dup_x1, 1)) (cv : v.category = 1) (cw : w.category = 1) (h : rt_AW G d K Q (pc + 1) lv (v :: w :: v :: t) I L r) : rt_AW G d K Q pc lv (v :: w :: t) I L r :=
  fun l p e s m args below meth c H locs ls C hP hS hl => lv_dup_x1 C.1 C.2.1 hd (by rw [rt_v_cat]; exact cv) (by rw [rt_v_cat]; exact cw) (h l p e s m args below meth c H locs ls C hP hS hl)
theorem rt_o_dup2 {G : rt_G} {d : Nat} {K : rt_K} {Q : rt_Q} {pc : Nat} {lv : rt_V} {I : rt_I} {L : rt_L} {r : Nat} {t : List Value} {v : Value} {w : Value} (hd : decode K.2.1 pc = .ok (.dup2, 1)) (cv : v.category = 1) (cw : w.category = 1) (h : rt_AW G d K Q (pc + 1) lv (v :: w :: v :: w :: t) I L r) : rt_AW G d K Q pc lv (v :: w :: t) I L r :=
  fun l p e s m args below meth c H locs ls C hP hS hl => lv_dup2_11 C.1 C.2.1 hd (by rw [rt_v_cat]; exact cv) (by rw [rt_v_cat]; exact cw) (h l p e s m args below meth c H locs ls C hP hS hl)
theorem rt_o_iconst {G : rt_G} {d : Nat} {K : rt_K} {Q : rt_Q} {pc : Nat} {lv : rt_V} {st : List Value} {I : rt_I} {L : rt_L} {r : Nat} {x : Int} (hd : decode K.2.1 pc = .ok (.iconst x, 1)) (h : rt_AW G d K Q (pc + 1) lv (.int (rt_ic x) :: st) I L r) : rt_AW G d K Q pc lv st I L r :=
  fun l p e s m args below meth c H locs ls C hP hS hl => lv_iconst C.1 C.2.1 hd (rt_ic_eq x).symm (h l p e s m args below meth c H locs ls C hP hS hl)
theorem rt_o_bipush {G : rt_G} {d : Nat} {K : rt_K} {Q : rt_Q} {pc : Nat} {lv : rt_V} {st : List Value} {I : rt_I} {L : rt_L} {r : Nat} {x : Int} (hx : rt_in8 x = true) (hd : decode K.2.1 pc = .ok (.bipush x, 2)) (h : rt_AW G d K Q (pc + 2) lv (.int (rt_ic x) :: st) I L r) : rt_AW G d K Q pc lv st I L r :=
  fun l p e s m args below meth c H locs ls C hP hS hl => lv_bipush C.1 C.2.1 hd (rt_ic8 hx) (h l p e s m args below meth c H locs ls C hP hS hl)
theorem rt_o_sipush {G : rt_G} {d : Nat} {K : rt_K} {Q : rt_Q} {pc : Nat} {lv : rt_V} {st : List Value} {I : rt_I} {L : rt_L} {r : Nat} {x : Int} (hx : rt_in16 x = true) (hd : decode K.2.1 pc = .ok (.sipush x, 3)) (h : rt_AW G d K Q (pc + 3) lv (.int (rt_ic x) :: st) I L r) : rt_AW G d K Q pc lv st I L r :=
  fun l p e s m args below meth c H locs ls C hP hS hl => lv_sipush C.1 C.2.1 hd (rt_ic16 hx) (h l p e s m args below meth c H locs ls C hP hS hl)
theorem rt_o_lconst {G : rt_G} {d : Nat} {K : rt_K} {Q : rt_Q} {pc : Nat} {lv : rt_V} {st : List Value} {I : rt_I} {L : rt_L} {r : Nat} {x : Fin 2} (hd : decode K.2.1 pc = .ok (.lconst x, 1)) (h : rt_AW G d K Q (pc + 1) lv (.long (Int64.ofNat (x : Nat)) :: st) I L r) : rt_AW G d K Q pc lv st I L r :=
  fun l p e s m args below meth c H locs ls C hP hS hl => lv_lconst C.1 C.2.1 hd rfl (h l p e s m args below meth c H locs ls C hP hS hl)
theorem rt_o_ldc {G : rt_G} {d : Nat} {K : rt_K} {Q : rt_Q} {pc : Nat} {lv : rt_V} {st : List Value} {I : rt_I} {L : rt_L} {r : Nat} {x : Nat} {v : Int32} (hw : Cond.constant K.1.cls x v ∈ rt_tbl) (hd : decode K.2.1 pc = .ok (.ldc x, 2)) (h : rt_AW G d K Q (pc + 2) lv (.int v :: st) I L r) : rt_AW G d K Q pc lv st I L r :=
  fun l p e s m args below meth c H locs ls C hP hS hl => lv_ldc C.1 C.2.1 C.2.2.2.2.1 (C.2.2.2.2.2.1 _ hw) hd (h l p e s m args below meth c H locs ls C hP hS hl)
theorem rt_o_ldc_w {G : rt_G} {d : Nat} {K : rt_K} {Q : rt_Q} {pc : Nat} {lv : rt_V} {st : List Value} {I : rt_I} {L : rt_L} {r : Nat} {x : Nat} {v : Int32} (hw : Cond.constant K.1.cls x v ∈ rt_tbl) (hd : decode K.2.1 pc = .ok (.ldc_w x, 3)) (h : rt_AW G d K Q (pc + 3) lv (.int v :: st) I L r) : rt_AW G d K Q pc lv st I L r :=
  fun l p e s m args below meth c H locs ls C hP hS hl => lv_ldcw C.1 C.2.1 C.2.2.2.2.1 (C.2.2.2.2.2.1 _ hw) hd (h l p e s m args below meth c H locs ls C hP hS hl)
theorem rt_o_ldc2_w {G : rt_G} {d : Nat} {K : rt_K} {Q : rt_Q} {pc : Nat} {lv : rt_V} {st : List Value} {I : rt_I} {L : rt_L} {r : Nat} {x : Nat} {v : Int64} (hw : Cond.constantLong K.1.cls x v ∈ rt_tbl) (hd : decode K.2.1 pc = .ok (.ldc2_w x, 3)) (h : rt_AW G d K Q (pc + 3) lv (.long v :: st) I L r) : rt_AW G d K Q pc lv st I L r :=
  fun l p e s m args below meth c H locs ls C hP hS hl => lv_ldc2 C.1 C.2.1 C.2.2.2.2.1 (C.2.2.2.2.2.1 _ hw) hd (h l p e s m args below meth c H locs ls C hP hS hl)
theorem rt_o_iload {G : rt_G} {d : Nat} {K : rt_K} {Q : rt_Q} {pc : Nat} {lv : rt_V} {st : List Value} {I : rt_I} {L : rt_L} {r : Nat} {i : Nat} {x : Int32} (hv : lv[i]? = some (some (.int x))) (hd : decode K.2.1 pc = .ok (.iload i, 2)) (h : rt_AW G d K Q (pc + 2) lv (.int x :: st) I L r) : rt_AW G d K Q pc lv st I L r :=
  fun l p e s m args below meth c H locs ls C hP hS hl => lv_iload C.1 C.2.1 hd  (rt_lv_at hl hv) (h l p e s m args below meth c H locs ls C hP hS hl)
theorem rt_o_iload_n {G : rt_G} {d : Nat} {K : rt_K} {Q : rt_Q} {pc : Nat} {lv : rt_V} {st : List Value} {I : rt_I} {L : rt_L} {r : Nat} {i : Fin 4} {x : Int32} (hv : lv[(i : Nat)]? = some (some (.int x))) (hd : decode K.2.1 pc = .ok (.iload_n i, 1)) (h : rt_AW G d K Q (pc + 1) lv (.int x :: st) I L r) : rt_AW G d K Q pc lv st I L r :=
  fun l p e s m args below meth c H locs ls C hP hS hl => lv_iload_n C.1 C.2.1 hd rfl (rt_lv_at hl hv) (h l p e s m args below meth c H locs ls C hP hS hl)
theorem rt_o_lload {G : rt_G} {d : Nat} {K : rt_K} {Q : rt_Q} {pc : Nat} {lv : rt_V} {st : List Value} {I : rt_I} {L : rt_L} {r : Nat} {i : Nat} {x : Int64} (hv : lv[i]? = some (some (.long x))) (hd : decode K.2.1 pc = .ok (.lload i, 2)) (h : rt_AW G d K Q (pc + 2) lv (.long x :: st) I L r) : rt_AW G d K Q pc lv st I L r :=
  fun l p e s m args below meth c H locs ls C hP hS hl => lv_lload C.1 C.2.1 hd  (rt_lv_at hl hv) (h l p e s m args below meth c H locs ls C hP hS hl)
theorem rt_o_lload_n {G : rt_G} {d : Nat} {K : rt_K} {Q : rt_Q} {pc : Nat} {lv : rt_V} {st : List Value} {I : rt_I} {L : rt_L} {r : Nat} {i : Fin 4} {x : Int64} (hv : lv[(i : Nat)]? = some (some (.long x))) (hd : decode K.2.1 pc = .ok (.lload_n i, 1)) (h : rt_AW G d K Q (pc + 1) lv (.long x :: st) I L r) : rt_AW G d K Q pc lv st I L r :=
  fun l p e s m args below meth c H locs ls C hP hS hl => lv_lload_n C.1 C.2.1 hd rfl (rt_lv_at hl hv) (h l p e s m args below meth c H locs ls C hP hS hl)
theorem rt_o_aload {G : rt_G} {d : Nat} {K : rt_K} {Q : rt_Q} {pc : Nat} {lv : rt_V} {st : List Value} {I : rt_I} {L : rt_L} {r : Nat} {i : Nat} {x : Nat} (hv : lv[i]? = some (some (.ref x))) (hd : decode K.2.1 pc = .ok (.aload i, 2)) (h : rt_AW G d K Q (pc + 2) lv (.ref x :: st) I L r) : rt_AW G d K Q pc lv st I L r :=
  fun l p e s m args below meth c H locs ls C hP hS hl => lv_aload C.1 C.2.1 hd  (rt_lv_at hl hv) (h l p e s m args below meth c H locs ls C hP hS hl)
theorem rt_o_aload_n {G : rt_G} {d : Nat} {K : rt_K} {Q : rt_Q} {pc : Nat} {lv : rt_V} {st : List Value} {I : rt_I} {L : rt_L} {r : Nat} {i : Fin 4} {x : Nat} (hv : lv[(i : Nat)]? = some (some (.ref x))) (hd : decode K.2.1 pc = .ok (.aload_n i, 1)) (h : rt_AW G d K Q (pc + 1) lv (.ref x :: st) I L r) : rt_AW G d K Q pc lv st I L r :=
  fun l p e s m args below meth c H locs ls C hP hS hl => lv_aload_n C.1 C.2.1 hd rfl (rt_lv_at hl hv) (h l p e s m args below meth c H locs ls C hP hS hl)
theorem rt_o_istore {G : rt_G} {d : Nat} {K : rt_K} {Q : rt_Q} {pc : Nat} {lv : rt_V} {I : rt_I} {L : rt_L} {r : Nat} {t : List Value} {i : Nat} {x : Int32} (ho : rt_okS lv i = true) (hd : decode K.2.1 pc = .ok (.istore i, 2)) (h : rt_AW G d K Q (pc + 2) (lv.set i (some (.int x))) t I L r) : rt_AW G d K Q pc lv (.int x :: t) I L r :=
  fun l p e s m args below meth c H locs ls C hP hS hl => lv_istore C.1 C.2.1 hd  hl.2 (by rw [← hl.1]; exact (rt_okS_inv ho).1) rfl (fun ls' hl' => h l p e s m args below meth c H locs ls' C hP hS (rt_lv_set (v := .int x) hl.1 ho hl'))
theorem rt_o_istore_n {G : rt_G} {d : Nat} {K : rt_K} {Q : rt_Q} {pc : Nat} {lv : rt_V} {I : rt_I} {L : rt_L} {r : Nat} {t : List Value} {i : Fin 4} {x : Int32} (ho : rt_okS lv (i : Nat) = true) (hd : decode K.2.1 pc = .ok (.istore_n i, 1)) (h : rt_AW G d K Q (pc + 1) (lv.set (i : Nat) (some (.int x))) t I L r) : rt_AW G d K Q pc lv (.int x :: t) I L r :=
  fun l p e s m args below meth c H locs ls C hP hS hl => lv_istore_n C.1 C.2.1 hd rfl hl.2 (by rw [← hl.1]; exact (rt_okS_inv ho).1) rfl (fun ls' hl' => h l p e s m args below meth c H locs ls' C hP hS (rt_lv_set (v := .int x) hl.1 ho hl'))
theorem rt_o_astore {G : rt_G} {d : Nat} {K : rt_K} {Q : rt_Q} {pc : Nat} {lv : rt_V} {I : rt_I} {L : rt_L} {r : Nat} {t : List Value} {i : Nat} {x : Nat} (ho : rt_okS lv i = true) (hd : decode K.2.1 pc = .ok (.astore i, 2)) (h : rt_AW G d K Q (pc + 2) (lv.set i (some (.ref x))) t I L r) : rt_AW G d K Q pc lv (.ref x :: t) I L r :=
  fun l p e s m args below meth c H locs ls C hP hS hl => lv_astore C.1 C.2.1 hd  hl.2 (by rw [← hl.1]; exact (rt_okS_inv ho).1) rfl (fun ls' hl' => h l p e s m args below meth c H locs ls' C hP hS (rt_lv_set (v := .ref x) hl.1 ho hl'))
theorem rt_o_astore_n {G : rt_G} {d : Nat} {K : rt_K} {Q : rt_Q} {pc : Nat} {lv : rt_V} {I : rt_I} {L : rt_L} {r : Nat} {t : List Value} {i : Fin 4} {x : Nat} (ho : rt_okS lv (i : Nat) = true) (hd : decode K.2.1 pc = .ok (.astore_n i, 1)) (h : rt_AW G d K Q (pc + 1) (lv.set (i : Nat) (some (.ref x))) t I L r) : rt_AW G d K Q pc lv (.ref x :: t) I L r :=
  fun l p e s m args below meth c H locs ls C hP hS hl => lv_astore_n C.1 C.2.1 hd rfl hl.2 (by rw [← hl.1]; exact (rt_okS_inv ho).1) rfl (fun ls' hl' => h l p e s m args below meth c H locs ls' C hP hS (rt_lv_set (v := .ref x) hl.1 ho hl'))
theorem rt_o_lstore {G : rt_G} {d : Nat} {K : rt_K} {Q : rt_Q} {pc : Nat} {lv : rt_V} {I : rt_I} {L : rt_L} {r : Nat} {t : List Value} {i : Nat} {x : Int64} (ho : rt_okS lv i = true) (hb : i + 1 < lv.length) (hd : decode K.2.1 pc = .ok (.lstore i, 2)) (h : rt_AW G d K Q (pc + 2) ((lv.set i (some (.long x))).set (i + 1) none) t I L r) : rt_AW G d K Q pc lv (.long x :: t) I L r :=
  fun l p e s m args below meth c H locs ls C hP hS hl => lv_lstore C.1 C.2.1 hd  hl.2 (by rw [← hl.1]; exact hb) rfl (fun ls' hl' => h l p e s m args below meth c H locs ls' C hP hS (rt_lv_set2 (v := .long x) hl.1 ho hl'))
theorem rt_o_lstore_n {G : rt_G} {d : Nat} {K : rt_K} {Q : rt_Q} {pc : Nat} {lv : rt_V} {I : rt_I} {L : rt_L} {r : Nat} {t : List Value} {i : Fin 4} {x : Int64} (ho : rt_okS lv (i : Nat) = true) (hb : (i : Nat) + 1 < lv.length) (hd : decode K.2.1 pc = .ok (.lstore_n i, 1)) (h : rt_AW G d K Q (pc + 1) ((lv.set (i : Nat) (some (.long x))).set ((i : Nat) + 1) none) t I L r) : rt_AW G d K Q pc lv (.long x :: t) I L r :=
  fun l p e s m args below meth c H locs ls C hP hS hl => lv_lstore_n C.1 C.2.1 hd rfl hl.2 (by rw [← hl.1]; exact hb) rfl (fun ls' hl' => h l p e s m args below meth c H locs ls' C hP hS (rt_lv_set2 (v := .long x) hl.1 ho hl'))
theorem rt_o_iinc {G : rt_G} {d : Nat} {K : rt_K} {Q : rt_Q} {pc : Nat} {lv : rt_V} {st : List Value} {I : rt_I} {L : rt_L} {r : Nat} {i : Nat} {v : Int} {x : Int32} (ho : rt_okS lv i = true) (hv : lv[i]? = some (some (.int x))) (hd : decode K.2.1 pc = .ok (.iinc i v, 3)) (h : rt_AW G d K Q (pc + 3) (lv.set i (some (.int (x + rt_ic v)))) st I L r) : rt_AW G d K Q pc lv st I L r := by
  intro l p e s m args below meth c H locs ls C hP hS hl
  obtain ⟨k, hk⟩ := List.getElem?_of_mem (rt_lvl_mem.mpr ⟨.int x, hv, rfl⟩ : (i, rt_v G.2.2.2 (.int x)) ∈ rt_lvl G.2.2.2 lv)
  exact lv_iinc C.1 C.2.1 hd hl.2 hk (by rw [rt_ic_eq]) (by rw [← hl.1]; exact (rt_okS_inv ho).1) rfl (fun ls' hl' => h l p e s m args below meth c H locs ls' C hP hS (rt_lv_set (v := .int (x + rt_ic v)) hl.1 ho hl'))
theorem rt_o_goto {G : rt_G} {d : Nat} {K : rt_K} {Q : rt_Q} {pc : Nat} {lv : rt_V} {st : List Value} {I : rt_I} {L : rt_L} {r : Nat} {off : Int} (ht : rt_tk pc off = true) (hd : decode K.2.1 pc = .ok (.goto off, 3)) (h : rt_AW G d K Q (rt_tg pc off) lv st I L r) : rt_AW G d K Q pc lv st I L r :=
  fun l p e s m args below meth c H locs ls C hP hS hl => lv_goto C.1 C.2.1 hd (rt_tg_eq ht) (h l p e s m args below meth c H locs ls C hP hS hl)
theorem rt_o_ifCond {G : rt_G} {d : Nat} {K : rt_K} {Q : rt_Q} {pc : Nat} {lv : rt_V} {I : rt_I} {L : rt_L} {r : Nat} {t : List Value} {x : Int32} {cd : Jvm.ClassFile.Cond} {off : Int} (ht : rt_tk pc off = true) (hd : decode K.2.1 pc = .ok (.ifCond cd off, 3)) (h : rt_br cd x 0 (rt_AW G d K Q (rt_tg pc off) lv t I L r) (rt_AW G d K Q (pc + 3) lv t I L r)) : rt_AW G d K Q pc lv (.int x :: t) I L r := by
  intro l p e s m args below meth c H locs ls C hP hS hl
  cases cd
  case eq => exact lv_if_eq C.1 C.2.1 hd (rt_tg_eq ht) (fun q => h.1 q l p e s m args below meth c H locs ls C hP hS hl) (fun q => h.2 q l p e s m args below meth c H locs ls C hP hS hl)
  case ne => exact lv_if_ne C.1 C.2.1 hd (rt_tg_eq ht) (fun q => h.1 q l p e s m args below meth c H locs ls C hP hS hl) (fun q => h.2 q l p e s m args below meth c H locs ls C hP hS hl)
  case lt => exact lv_if_lt C.1 C.2.1 hd (rt_tg_eq ht) (fun q => h.1 q l p e s m args below meth c H locs ls C hP hS hl) (fun q => h.2 q l p e s m args below meth c H locs ls C hP hS hl)
  case ge => exact lv_if_ge C.1 C.2.1 hd (rt_tg_eq ht) (fun q => h.1 q l p e s m args below meth c H locs ls C hP hS hl) (fun q => h.2 q l p e s m args below meth c H locs ls C hP hS hl)
  case gt => exact lv_if_gt C.1 C.2.1 hd (rt_tg_eq ht) (fun q => h.1 q l p e s m args below meth c H locs ls C hP hS hl) (fun q => h.2 q l p e s m args below meth c H locs ls C hP hS hl)
  case le => exact lv_if_le C.1 C.2.1 hd (rt_tg_eq ht) (fun q => h.1 q l p e s m args below meth c H locs ls C hP hS hl) (fun q => h.2 q l p e s m args below meth c H locs ls C hP hS hl)
theorem rt_o_icmp {G : rt_G} {d : Nat} {K : rt_K} {Q : rt_Q} {pc : Nat} {lv : rt_V} {I : rt_I} {L : rt_L} {r : Nat} {t : List Value} {x y : Int32} {cd : Jvm.ClassFile.Cond} {off : Int} (ht : rt_tk pc off = true) (hd : decode K.2.1 pc = .ok (.if_icmp cd off, 3)) (h : rt_br cd x y (rt_AW G d K Q (rt_tg pc off) lv t I L r) (rt_AW G d K Q (pc + 3) lv t I L r)) : rt_AW G d K Q pc lv (.int y :: .int x :: t) I L r := by
  intro l p e s m args below meth c H locs ls C hP hS hl
  cases cd
  case eq => exact lv_icmp_eq C.1 C.2.1 hd (rt_tg_eq ht) (fun q => h.1 q l p e s m args below meth c H locs ls C hP hS hl) (fun q => h.2 q l p e s m args below meth c H locs ls C hP hS hl)
  case ne => exact lv_icmp_ne C.1 C.2.1 hd (rt_tg_eq ht) (fun q => h.1 q l p e s m args below meth c H locs ls C hP hS hl) (fun q => h.2 q l p e s m args below meth c H locs ls C hP hS hl)
  case lt => exact lv_icmp_lt C.1 C.2.1 hd (rt_tg_eq ht) (fun q => h.1 q l p e s m args below meth c H locs ls C hP hS hl) (fun q => h.2 q l p e s m args below meth c H locs ls C hP hS hl)
  case ge => exact lv_icmp_ge C.1 C.2.1 hd (rt_tg_eq ht) (fun q => h.1 q l p e s m args below meth c H locs ls C hP hS hl) (fun q => h.2 q l p e s m args below meth c H locs ls C hP hS hl)
  case gt => exact lv_icmp_gt C.1 C.2.1 hd (rt_tg_eq ht) (fun q => h.1 q l p e s m args below meth c H locs ls C hP hS hl) (fun q => h.2 q l p e s m args below meth c H locs ls C hP hS hl)
  case le => exact lv_icmp_le C.1 C.2.1 hd (rt_tg_eq ht) (fun q => h.1 q l p e s m args below meth c H locs ls C hP hS hl) (fun q => h.2 q l p e s m args below meth c H locs ls C hP hS hl)
theorem rt_sw_at {pc : Nat} {x : Int32} {K : Nat → Prop} : ∀ {offs : List Int} {lo : Int} (j : Nat) {o : Int}, rt_sw pc lo offs x K → offs[j]? = some o → x.toInt = lo + (j : Int) → rt_tk pc o = true ∧ K (rt_tg pc o)
  | [], lo, j, o, _, h, _ => by simp at h
  | a :: t, lo, 0, o, h, ho, hx => by
    simp at ho
    subst ho
    have e : x = Int32.ofInt lo := by
      rw [show lo = x.toInt by omega, Int32.ofInt_toInt]
    exact rt_ck_inv (h.1 e)
  | a :: t, lo, j + 1, o, h, ho, hx => rt_sw_at j h.2 (by simpa using ho) (by omega)
theorem rt_o_tsw {G : rt_G} {d : Nat} {K : rt_K} {Q : rt_Q} {pc : Nat} {lv : rt_V} {I : rt_I} {L : rt_L} {r : Nat} {t : List Value} {x : Int32} {dflt lo hi : Int} {offs : Array Int} {n : Nat} (ht : rt_tk pc dflt = true) (hn : lo + (offs.toList.length : Int) = hi + 1) (hd : decode K.2.1 pc = .ok (.tableswitch dflt lo hi offs, n)) (h1 : x.toInt < lo ∨ hi < x.toInt → rt_AW G d K Q (rt_tg pc dflt) lv t I L r) (h2 : rt_sw pc lo offs.toList x (fun tg => rt_AW G d K Q tg lv t I L r)) : rt_AW G d K Q pc lv (.int x :: t) I L r := by
  intro l p e s m args below meth c H locs ls C hP hS hl
  by_cases hx : x.toInt < lo ∨ hi < x.toInt
  · exact lv_tableOut C.1 C.2.1 hd hx (rt_tg_eq ht) (h1 hx l p e s m args below meth c H locs ls C hP hS hl)
  · have a1 : ¬ x.toInt < lo := fun q => hx (Or.inl q)
    have a2 : ¬ hi < x.toInt := fun q => hx (Or.inr q)
    have hj : (x.toInt - lo).toNat < offs.toList.length := by omega
    have ho : offs.toList[(x.toInt - lo).toNat]? = some offs.toList[(x.toInt - lo).toNat] := List.getElem?_eq_getElem hj
    obtain ⟨b1, b2⟩ := rt_sw_at _ h2 ho (by omega)
    exact lv_tableIn C.1 C.2.1 hd a1 a2 (by rw [← Array.getElem?_toList]; exact ho) (rt_tg_eq b1) (b2 l p e s m args below meth c H locs ls C hP hS hl)
theorem rt_sw_imp {pc : Nat} {x : Int32} {K K' : Nat → Prop} (hk : ∀ t, K t → K' t) : ∀ {offs : List Int} {lo : Int}, rt_sw pc lo offs x K → rt_sw pc lo offs x K'
  | [], _, _ => trivial
  | a :: t, lo, h => ⟨fun q => by
      obtain ⟨b1, b2⟩ := rt_ck_inv (h.1 q)
      rw [b1]
      exact hk _ b2, rt_sw_imp hk h.2⟩
theorem rt_lsw_at {pc : Nat} {x : Int32} {dflt : Int} {K : Nat → Prop} : ∀ {ps : List (Int × Int)}, ps.all (fun q => decide ((Int32.ofInt q.1).toInt = q.1)) = true → rt_lsw pc ps dflt x K → rt_tk pc (Op.lookupswitch.offset ps dflt x.toInt) = true ∧ K (rt_tg pc (Op.lookupswitch.offset ps dflt x.toInt))
  | [], _, h => rt_ck_inv h
  | (a, b) :: t, ha, h => by
    simp only [List.all_cons, Bool.and_eq_true, decide_eq_true_eq] at ha
    rw [Op.lookupswitch.offset_cons]
    by_cases hx : x = Int32.ofInt a
    · rw [if_pos (by rw [hx]; first | exact ha.1 | exact ha.1.symm)]
      exact rt_ck_inv (h.1 hx)
    · rw [if_neg (fun q => hx (by first | (rw [q, Int32.ofInt_toInt]) | (rw [← q, Int32.ofInt_toInt])))]
      exact rt_lsw_at ha.2 (h.2 hx)
theorem rt_o_lsw {G : rt_G} {d : Nat} {K : rt_K} {Q : rt_Q} {pc : Nat} {lv : rt_V} {I : rt_I} {L : rt_L} {r : Nat} {t : List Value} {x : Int32} {dflt : Int} {ps : Array (Int × Int)} {n : Nat} (hp : (ps.toList.zip (ps.toList.drop 1)).all (fun (a, next) => a.1 < next.1) = true) (ha : ps.toList.all (fun q => decide ((Int32.ofInt q.1).toInt = q.1)) = true) (hd : decode K.2.1 pc = .ok (.lookupswitch dflt ps, n)) (h : rt_lsw pc ps.toList dflt x (fun tg => rt_AW G d K Q tg lv t I L r)) : rt_AW G d K Q pc lv (.int x :: t) I L r := by
  intro l p e s m args below meth c H locs ls C hP hS hl
  obtain ⟨b1, b2⟩ := rt_lsw_at ha h
  exact lv_lookup C.1 C.2.1 hd hp rfl (rt_tg_eq b1) (b2 l p e s m args below meth c H locs ls C hP hS hl)
theorem rt_lsw_imp {pc : Nat} {x : Int32} {dflt : Int} {K K' : Nat → Prop} (hk : ∀ t, K t → K' t) : ∀ {ps : List (Int × Int)}, rt_lsw pc ps dflt x K → rt_lsw pc ps dflt x K'
  | [], h => by
    obtain ⟨b1, b2⟩ := rt_ck_inv (b := rt_tk pc dflt) h
    show rt_ck (rt_tk pc dflt) _
    rw [b1]
    exact hk _ b2
  | a :: t, h => ⟨fun q => by
      obtain ⟨b1, b2⟩ := rt_ck_inv (h.1 q)
      rw [b1]
      exact hk _ b2, fun q => rt_lsw_imp hk (h.2 q)⟩
theorem rt_o_getfield {G : rt_G} {d : Nat} {K : rt_K} {Q : rt_Q} {pc : Nat} {lv : rt_V} {I : rt_I} {L : rt_L} {r : Nat} {t : List Value} {x ci j tt q : Nat} (hf : rt_okf K.1.cls x ci j tt) (ho : rt_isO q ci j = true) (hg : rt_gok r q j = true) (hd : decode K.2.1 pc = .ok (.getfield x, 3)) (h : rt_AW G d K Q (pc + 3) lv (rt_gv I r ci q j :: t) I L r) : rt_AW G d K Q pc lv (.ref q :: t) I L r := by
  intro l p e s m args below meth c H locs ls C hP hS hl
  obtain ⟨⟨C0, T0, N0⟩, h1, h2, h3, -⟩ := hf
  obtain ⟨a1, a2, a3⟩ := rt_isO_inv ho
  have he := rt_W_at (G := G) (I := I) (L := L) (r := r) a1
  rw [rt_en_o a2] at he
  refine va_get (v := rt_fv G.2.2.2 I r ci q j) (ref := (T0 j).1) C.1 C.2.1 C.2.2.2.2.2.1 (rt_cls ci _ h1).1 C.2.2.2.2.1 C.2.2.2.2.2.2.2.1 hP q he h1 j h2 (C.2.2.2.2.2.1 _ h3) (fun _ z => z) ?_ hd ?_
  · rw [List.getElem?_map, List.getElem?_range a3]
    rfl
  · rw [← rt_gv_v hg]
    exact h l p e s m args below meth c H locs ls C hP hS hl
theorem rt_range_set {n j : Nat} {f g : Nat → Value} {v : Value} (hj : j < n) (h1 : g j = v) (h2 : ∀ i, i < n → i ≠ j → g i = f i) : ((List.range n).map f).set j v = (List.range n).map g := by
  apply List.ext_getElem?
  intro k
  by_cases hk : k < n
  · by_cases hkj : k = j
    · subst hkj
      rw [List.getElem?_set_self (by simpa using hk), List.getElem?_map, List.getElem?_range hk]
      simp [h1]
    · rw [List.getElem?_set_ne (Ne.symm hkj), List.getElem?_map, List.getElem?_map, List.getElem?_range hk]
      simp [h2 k hk hkj]
  · rw [List.getElem?_eq_none (by simp; omega), List.getElem?_eq_none (by simp; omega)]
theorem rt_o_put {G : rt_G} {d : Nat} {K : rt_K} {Q : rt_Q} {pc : Nat} {lv : rt_V} {I : rt_I} {L : rt_L} {r : Nat} {t : List Value} {x ci j tt q : Nat} {v : Int32} {ty : FieldType} (hf : rt_okf K.1.cls x ci j tt) (hty : ∀ q9 : vw_C, vwCl[ci]? = some q9 → parseFieldDescriptor (q9.2.1 j).2.2.1 = some ty ∧ (q9.2.1 j).2.2.2 = false) (hR : rt_isR ci j = false) (hn : narrow ty (.int v) = .int v) (hft : fits ty (.int v) = true) (ho : rt_isO q ci j = true) (hd : decode K.2.1 pc = .ok (.putfield x, 3)) (h : rt_AW G d K Q (pc + 3) lv t (rt_u I q j v) L r) : rt_AW G d K Q pc lv (.int v :: .ref q :: t) I L r := by
  intro l p e s m args below meth c H locs ls C hP hS hl
  obtain ⟨⟨C0, T0, N0⟩, h1, h2, h3, -⟩ := hf
  obtain ⟨y1, y2⟩ := hty _ h1
  obtain ⟨a1, a2, a3⟩ := rt_isO_inv ho
  have he := rt_W_at (G := G) (I := I) (L := L) (r := r) a1
  rw [rt_en_o a2] at he
  obtain ⟨u1, ty0, u2, u3⟩ := rt_cls ci _ h1
  refine va_put (v := .int v) (ref := (T0 j).1) C.1 C.2.1 C.2.2.2.2.2.1 u1 ty0 u2 u3 C.2.2.2.2.1 C.2.2.2.2.2.2.2.1 hP (rt_D C.2.2.2.2.2.2.2.2) hS q he h1 j h2 (C.2.2.2.2.2.1 _ h3) (fun _ z => z) y2 y1 hn hft (by simpa using a3) hd (fun H1 locs1 hP1 _ hS1 => ?_)
  rw [rt_W_set (I' := rt_u I q j v) (L' := L) (r' := r) a1] at hP1
  · exact h l p e s m args below meth c H1 locs1 ls C hP1 hS1 hl
  · rw [rt_en_o a2]
    congr 2
    symm
    refine rt_range_set a3 ?_ (fun i hi hne => ?_)
    · simp [rt_fv, hR, rt_u_eq, upd]
    · simp [rt_fv, rt_u_eq, upd, hne]
  · intro y hy hne
    exact rt_en_ne (rt_u_ne hne)
theorem rt_o_putr {G : rt_G} {d : Nat} {K : rt_K} {Q : rt_Q} {pc : Nat} {lv : rt_V} {I : rt_I} {L : rt_L} {r : Nat} {t : List Value} {x b : Nat} (hf : rt_okf K.1.cls x 12 15 3) (hb : Nat.blt b 136 = true) (hd : decode K.2.1 pc = .ok (.putfield x, 3)) (h : rt_AW G d K Q (pc + 3) lv t I L b) : rt_AW G d K Q pc lv (.ref b :: .ref 108 :: t) I L r := by
  intro l p e s m args below meth c H locs ls C hP hS hl
  obtain ⟨⟨C0, T0, N0⟩, h1, h2, h3, -, -, h4⟩ := hf
  obtain ⟨y1, y2, -, -⟩ := h4 rfl
  have a1 : 108 < rt_NC := Nat.le_of_ble_eq_true rfl
  have a2 : (rt_lay 108).1 = 12 + 5 := rfl
  have a3 : 15 < (rt_lay 108).2 := Nat.le_of_ble_eq_true rfl
  have he := rt_W_at (G := G) (I := I) (L := L) (r := r) a1
  rw [rt_en_o a2] at he
  obtain ⟨u1, ty0, u2, u3⟩ := rt_cls 12 _ h1
  refine va_put (v := .ref (G.2.2.2 b)) (ref := (T0 15).1) C.1 C.2.1 C.2.2.2.2.2.1 u1 ty0 u2 u3 C.2.2.2.2.1 C.2.2.2.2.2.2.2.1 hP (rt_D C.2.2.2.2.2.2.2.2) hS 108 he h1 15 h2 (C.2.2.2.2.2.1 _ h3) (fun _ z => z) y2 y1 rfl rfl (by simpa using a3) hd (fun H1 locs1 hP1 _ hS1 => ?_)
  rw [rt_W_set (I' := I) (L' := L) (r' := b) a1] at hP1
  · exact h l p e s m args below meth c H1 locs1 ls C hP1 hS1 hl
  · rw [rt_en_o a2]
    refine congrArg (fun z => (Sum.inr (12, z) : va_E)) (rt_range_set a3 ?_ (fun i hi hne => ?_)).symm
    · have : rt_isR 12 15 = true := rfl
      simp [rt_fv, this, rt_pt, va_rf, rt_pm, hb]
    · simp [rt_fv, rt_pt, hne]
  · intro y hy hne
    have hp : ∀ j, rt_pt b y j = rt_pt r y j := fun j => by simp [rt_pt, hne]
    unfold rt_en rt_fv
    simp only [hp]
