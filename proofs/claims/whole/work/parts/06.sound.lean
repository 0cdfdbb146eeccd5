set_option maxHeartbeats 4000000 in
set_option maxRecDepth 20000 in
theorem rt_sound1 {G : rt_G} {d : Nat} {K : rt_K} {Q : rt_Q} {pc : Nat} {lv : rt_V} {st : List Value} {I : rt_I} {L : rt_L} {r : Nat} {z : rt_Z} {i : Instr} {n : Nat} {k : Nat → rt_V → List Value → rt_I → rt_L → Nat → Prop} (hz : rt_okZ K.1.cls z) (hd : decode K.2.1 pc = .ok (i, n)) (hk : ∀ pc' lv' st' I' L' r', k pc' lv' st' I' L' r' → rt_AW G d K Q pc' lv' st' I' L' r')
    (h : rt_wp1 G d z K.2.2.2 Q i n pc lv st I L r k) : rt_AW G d K Q pc lv st I L r := by
  cases i
  case iadd =>
    replace h := rt_ck_inv (b := Nat.beq n 1) h; obtain ⟨hn, h⟩ := h
    obtain rfl := Nat.eq_of_beq_eq_true hn
    replace h := rt_i1_inv h; obtain ⟨y, t, rfl, h⟩ := h
    replace h := rt_i1_inv h; obtain ⟨x, t, rfl, h⟩ := h
    exact rt_o_iadd hd   (hk _ _ _ _ _ _ h)
  case isub =>
    replace h := rt_ck_inv (b := Nat.beq n 1) h; obtain ⟨hn, h⟩ := h
    obtain rfl := Nat.eq_of_beq_eq_true hn
    replace h := rt_i1_inv h; obtain ⟨y, t, rfl, h⟩ := h
    replace h := rt_i1_inv h; obtain ⟨x, t, rfl, h⟩ := h
    exact rt_o_isub hd   (hk _ _ _ _ _ _ h)
  case imul =>
    replace h := rt_ck_inv (b := Nat.beq n 1) h; obtain ⟨hn, h⟩ := h
    obtain rfl := Nat.eq_of_beq_eq_true hn
    replace h := rt_i1_inv h; obtain ⟨y, t, rfl, h⟩ := h
    replace h := rt_i1_inv h; obtain ⟨x, t, rfl, h⟩ := h
    exact rt_o_imul hd   (hk _ _ _ _ _ _ h)
  case iand =>
    replace h := rt_ck_inv (b := Nat.beq n 1) h; obtain ⟨hn, h⟩ := h
    obtain rfl := Nat.eq_of_beq_eq_true hn
    replace h := rt_i1_inv h; obtain ⟨y, t, rfl, h⟩ := h
    replace h := rt_i1_inv h; obtain ⟨x, t, rfl, h⟩ := h
    exact rt_o_iand hd   (hk _ _ _ _ _ _ h)
  case ior =>
    replace h := rt_ck_inv (b := Nat.beq n 1) h; obtain ⟨hn, h⟩ := h
    obtain rfl := Nat.eq_of_beq_eq_true hn
    replace h := rt_i1_inv h; obtain ⟨y, t, rfl, h⟩ := h
    replace h := rt_i1_inv h; obtain ⟨x, t, rfl, h⟩ := h
    exact rt_o_ior hd   (hk _ _ _ _ _ _ h)
  case ixor =>
    replace h := rt_ck_inv (b := Nat.beq n 1) h; obtain ⟨hn, h⟩ := h
    obtain rfl := Nat.eq_of_beq_eq_true hn
    replace h := rt_i1_inv h; obtain ⟨y, t, rfl, h⟩ := h
    replace h := rt_i1_inv h; obtain ⟨x, t, rfl, h⟩ := h
    exact rt_o_ixor hd   (hk _ _ _ _ _ _ h)
  case ishl =>
    replace h := rt_ck_inv (b := Nat.beq n 1) h; obtain ⟨hn, h⟩ := h
    obtain rfl := Nat.eq_of_beq_eq_true hn
    replace h := rt_i1_inv h; obtain ⟨y, t, rfl, h⟩ := h
    replace h := rt_i1_inv h; obtain ⟨x, t, rfl, h⟩ := h
    exact rt_o_ishl hd   (hk _ _ _ _ _ _ h)
  case ishr =>
    replace h := rt_ck_inv (b := Nat.beq n 1) h; obtain ⟨hn, h⟩ := h
    obtain rfl := Nat.eq_of_beq_eq_true hn
    replace h := rt_i1_inv h; obtain ⟨y, t, rfl, h⟩ := h
    replace h := rt_i1_inv h; obtain ⟨x, t, rfl, h⟩ := h
    exact rt_o_ishr hd   (hk _ _ _ _ _ _ h)
  case idiv =>
    replace h := rt_ck_inv (b := Nat.beq n 1) h; obtain ⟨hn, h⟩ := h
    obtain rfl := Nat.eq_of_beq_eq_true hn
    replace h := rt_i1_inv h; obtain ⟨y, t, rfl, h⟩ := h
    replace h := rt_i1_inv h; obtain ⟨x, t, rfl, h⟩ := h
    obtain ⟨hs, h⟩ := h
    exact rt_o_idiv hd  hs (hk _ _ _ _ _ _ h)
  case irem =>
    replace h := rt_ck_inv (b := Nat.beq n 1) h; obtain ⟨hn, h⟩ := h
    obtain rfl := Nat.eq_of_beq_eq_true hn
    replace h := rt_i1_inv h; obtain ⟨y, t, rfl, h⟩ := h
    replace h := rt_i1_inv h; obtain ⟨x, t, rfl, h⟩ := h
    obtain ⟨hs, h⟩ := h
    exact rt_o_irem hd  hs (hk _ _ _ _ _ _ h)
  case iushr =>
    replace h := rt_ck_inv (b := Nat.beq n 1) h; obtain ⟨hn, h⟩ := h
    obtain rfl := Nat.eq_of_beq_eq_true hn
    replace h := rt_i1_inv h; obtain ⟨y, t, rfl, h⟩ := h
    replace h := rt_i1_inv h; obtain ⟨x, t, rfl, h⟩ := h
    exact rt_o_iushr hd   (hk _ _ _ _ _ _ h)
  case ineg =>
    replace h := rt_ck_inv (b := Nat.beq n 1) h; obtain ⟨hn, h⟩ := h
    obtain rfl := Nat.eq_of_beq_eq_true hn
    replace h := rt_i1_inv h; obtain ⟨x, t, rfl, h⟩ := h
    exact rt_o_ineg hd   (hk _ _ _ _ _ _ h)
  case ladd =>
    replace h := rt_ck_inv (b := Nat.beq n 1) h; obtain ⟨hn, h⟩ := h
    obtain rfl := Nat.eq_of_beq_eq_true hn
    replace h := rt_l1_inv h; obtain ⟨y, t, rfl, h⟩ := h
    replace h := rt_l1_inv h; obtain ⟨x, t, rfl, h⟩ := h
    exact rt_o_ladd hd   (hk _ _ _ _ _ _ h)
  case lsub =>
    replace h := rt_ck_inv (b := Nat.beq n 1) h; obtain ⟨hn, h⟩ := h
    obtain rfl := Nat.eq_of_beq_eq_true hn
    replace h := rt_l1_inv h; obtain ⟨y, t, rfl, h⟩ := h
    replace h := rt_l1_inv h; obtain ⟨x, t, rfl, h⟩ := h
    exact rt_o_lsub hd   (hk _ _ _ _ _ _ h)
  case lmul =>
    replace h := rt_ck_inv (b := Nat.beq n 1) h; obtain ⟨hn, h⟩ := h
    obtain rfl := Nat.eq_of_beq_eq_true hn
    replace h := rt_l1_inv h; obtain ⟨y, t, rfl, h⟩ := h
    replace h := rt_l1_inv h; obtain ⟨x, t, rfl, h⟩ := h
    exact rt_o_lmul hd   (hk _ _ _ _ _ _ h)
  case land =>
    replace h := rt_ck_inv (b := Nat.beq n 1) h; obtain ⟨hn, h⟩ := h
    obtain rfl := Nat.eq_of_beq_eq_true hn
    replace h := rt_l1_inv h; obtain ⟨y, t, rfl, h⟩ := h
    replace h := rt_l1_inv h; obtain ⟨x, t, rfl, h⟩ := h
    exact rt_o_land hd   (hk _ _ _ _ _ _ h)
  case lor =>
    replace h := rt_ck_inv (b := Nat.beq n 1) h; obtain ⟨hn, h⟩ := h
    obtain rfl := Nat.eq_of_beq_eq_true hn
    replace h := rt_l1_inv h; obtain ⟨y, t, rfl, h⟩ := h
    replace h := rt_l1_inv h; obtain ⟨x, t, rfl, h⟩ := h
    exact rt_o_lor hd   (hk _ _ _ _ _ _ h)
  case lcmp =>
    replace h := rt_ck_inv (b := Nat.beq n 1) h; obtain ⟨hn, h⟩ := h
    obtain rfl := Nat.eq_of_beq_eq_true hn
    replace h := rt_l1_inv h; obtain ⟨y, t, rfl, h⟩ := h
    replace h := rt_l1_inv h; obtain ⟨x, t, rfl, h⟩ := h
    exact rt_o_lcmp hd   (hk _ _ _ _ _ _ h)
  case lshl =>
    replace h := rt_ck_inv (b := Nat.beq n 1) h; obtain ⟨hn, h⟩ := h
    obtain rfl := Nat.eq_of_beq_eq_true hn
    replace h := rt_i1_inv h; obtain ⟨y, t, rfl, h⟩ := h
    replace h := rt_l1_inv h; obtain ⟨x, t, rfl, h⟩ := h
    exact rt_o_lshl hd   (hk _ _ _ _ _ _ h)
  case lushr =>
    replace h := rt_ck_inv (b := Nat.beq n 1) h; obtain ⟨hn, h⟩ := h
    obtain rfl := Nat.eq_of_beq_eq_true hn
    replace h := rt_i1_inv h; obtain ⟨y, t, rfl, h⟩ := h
    replace h := rt_l1_inv h; obtain ⟨x, t, rfl, h⟩ := h
    exact rt_o_lushr hd   (hk _ _ _ _ _ _ h)
  case i2l =>
    replace h := rt_ck_inv (b := Nat.beq n 1) h; obtain ⟨hn, h⟩ := h
    obtain rfl := Nat.eq_of_beq_eq_true hn
    replace h := rt_i1_inv h; obtain ⟨x, t, rfl, h⟩ := h
    exact rt_o_i2l hd   (hk _ _ _ _ _ _ h)
  case l2i =>
    replace h := rt_ck_inv (b := Nat.beq n 1) h; obtain ⟨hn, h⟩ := h
    obtain rfl := Nat.eq_of_beq_eq_true hn
    replace h := rt_l1_inv h; obtain ⟨x, t, rfl, h⟩ := h
    exact rt_o_l2i hd   (hk _ _ _ _ _ _ h)
  case i2b =>
    replace h := rt_ck_inv (b := Nat.beq n 1) h; obtain ⟨hn, h⟩ := h
    obtain rfl := Nat.eq_of_beq_eq_true hn
    replace h := rt_i1_inv h; obtain ⟨x, t, rfl, h⟩ := h
    exact rt_o_i2b hd   (hk _ _ _ _ _ _ h)
  case i2s =>
    replace h := rt_ck_inv (b := Nat.beq n 1) h; obtain ⟨hn, h⟩ := h
    obtain rfl := Nat.eq_of_beq_eq_true hn
    replace h := rt_i1_inv h; obtain ⟨x, t, rfl, h⟩ := h
    exact rt_o_i2s hd   (hk _ _ _ _ _ _ h)
  case i2c =>
    replace h := rt_ck_inv (b := Nat.beq n 1) h; obtain ⟨hn, h⟩ := h
    obtain rfl := Nat.eq_of_beq_eq_true hn
    replace h := rt_i1_inv h; obtain ⟨x, t, rfl, h⟩ := h
    exact rt_o_i2c hd   (hk _ _ _ _ _ _ h)
  case dup =>
    replace h := rt_ck_inv (b := Nat.beq n 1) h; obtain ⟨hn, h⟩ := h
    obtain rfl := Nat.eq_of_beq_eq_true hn
    replace h := rt_v1_inv h; obtain ⟨v, t, rfl, cv, h⟩ := h
    exact rt_o_dup hd cv  (hk _ _ _ _ _ _ h)
  case pop =>
    replace h := rt_ck_inv (b := Nat.beq n 1) h; obtain ⟨hn, h⟩ := h
    obtain rfl := Nat.eq_of_beq_eq_true hn
    replace h := rt_v1_inv h; obtain ⟨v, t, rfl, cv, h⟩ := h
    exact rt_o_pop hd cv  (hk _ _ _ _ _ _ h)
  case dup_x1 =>
    replace h := rt_ck_inv (b := Nat.beq n 1) h; obtain ⟨hn, h⟩ := h
    obtain rfl := Nat.eq_of_beq_eq_true hn
    replace h := rt_v1_inv h; obtain ⟨v, t, rfl, cv, h⟩ := h
    replace h := rt_v1_inv h; obtain ⟨w, t, rfl, cw, h⟩ := h
    exact rt_o_dup_x1 hd cv cw  (hk _ _ _ _ _ _ h)
  case dup2 =>
    replace h := rt_ck_inv (b := Nat.beq n 1) h; obtain ⟨hn, h⟩ := h
    obtain rfl := Nat.eq_of_beq_eq_true hn
    replace h := rt_v1_inv h; obtain ⟨v, t, rfl, cv, h⟩ := h
    replace h := rt_v1_inv h; obtain ⟨w, t, rfl, cw, h⟩ := h
    exact rt_o_dup2 hd cv cw  (hk _ _ _ _ _ _ h)
  case iconst x =>
    replace h := rt_ck_inv (b := Nat.beq n 1) h; obtain ⟨hn, h⟩ := h
    obtain rfl := Nat.eq_of_beq_eq_true hn
    exact rt_o_iconst hd (hk _ _ _ _ _ _ h)
  case bipush x =>
    replace h := rt_ck_inv (b := Nat.beq n 2 && rt_in8 x) h; obtain ⟨hn, h⟩ := h
    rw [Bool.and_eq_true] at hn
    obtain rfl := Nat.eq_of_beq_eq_true hn.1
    exact rt_o_bipush hn.2 hd (hk _ _ _ _ _ _ h)
  case sipush x =>
    replace h := rt_ck_inv (b := Nat.beq n 3 && rt_in16 x) h; obtain ⟨hn, h⟩ := h
    rw [Bool.and_eq_true] at hn
    obtain rfl := Nat.eq_of_beq_eq_true hn.1
    exact rt_o_sipush hn.2 hd (hk _ _ _ _ _ _ h)
  case lconst x =>
    replace h := rt_ck_inv (b := Nat.beq n 1) h; obtain ⟨hn, h⟩ := h
    obtain rfl := Nat.eq_of_beq_eq_true hn
    exact rt_o_lconst hd (hk _ _ _ _ _ _ h)
  case ldc x =>
    replace h := rt_ck_inv (b := Nat.beq n 2) h; obtain ⟨hn, h⟩ := h
    obtain rfl := Nat.eq_of_beq_eq_true hn
    replace h := rt_fnd_inv h; obtain ⟨v, hv, h⟩ := h
    exact rt_o_ldc (hz.2.2.1 _ hv) hd (hk _ _ _ _ _ _ h)
  case ldc_w x =>
    replace h := rt_ck_inv (b := Nat.beq n 3) h; obtain ⟨hn, h⟩ := h
    obtain rfl := Nat.eq_of_beq_eq_true hn
    replace h := rt_fnd_inv h; obtain ⟨v, hv, h⟩ := h
    exact rt_o_ldc_w (hz.2.2.1 _ hv) hd (hk _ _ _ _ _ _ h)
  case ldc2_w x =>
    replace h := rt_ck_inv (b := Nat.beq n 3) h; obtain ⟨hn, h⟩ := h
    obtain rfl := Nat.eq_of_beq_eq_true hn
    replace h := rt_fnd_inv h; obtain ⟨v, hv, h⟩ := h
    exact rt_o_ldc2_w (hz.2.2.2.1 _ hv) hd (hk _ _ _ _ _ _ h)
  case iload i =>
    replace h := rt_ck_inv (b := Nat.beq n 2) h; obtain ⟨hn, h⟩ := h
    obtain rfl := Nat.eq_of_beq_eq_true hn
    replace h := rt_li_inv h; obtain ⟨x, hv, h⟩ := h
    exact rt_o_iload hv hd (hk _ _ _ _ _ _ h)
  case iload_n i =>
    replace h := rt_ck_inv (b := Nat.beq n 1) h; obtain ⟨hn, h⟩ := h
    obtain rfl := Nat.eq_of_beq_eq_true hn
    replace h := rt_li_inv h; obtain ⟨x, hv, h⟩ := h
    exact rt_o_iload_n hv hd (hk _ _ _ _ _ _ h)
  case lload i =>
    replace h := rt_ck_inv (b := Nat.beq n 2) h; obtain ⟨hn, h⟩ := h
    obtain rfl := Nat.eq_of_beq_eq_true hn
    replace h := rt_ll_inv h; obtain ⟨x, hv, h⟩ := h
    exact rt_o_lload hv hd (hk _ _ _ _ _ _ h)
  case lload_n i =>
    replace h := rt_ck_inv (b := Nat.beq n 1) h; obtain ⟨hn, h⟩ := h
    obtain rfl := Nat.eq_of_beq_eq_true hn
    replace h := rt_ll_inv h; obtain ⟨x, hv, h⟩ := h
    exact rt_o_lload_n hv hd (hk _ _ _ _ _ _ h)
  case aload i =>
    replace h := rt_ck_inv (b := Nat.beq n 2) h; obtain ⟨hn, h⟩ := h
    obtain rfl := Nat.eq_of_beq_eq_true hn
    replace h := rt_lr_inv h; obtain ⟨x, hv, h⟩ := h
    exact rt_o_aload hv hd (hk _ _ _ _ _ _ h)
  case aload_n i =>
    replace h := rt_ck_inv (b := Nat.beq n 1) h; obtain ⟨hn, h⟩ := h
    obtain rfl := Nat.eq_of_beq_eq_true hn
    replace h := rt_lr_inv h; obtain ⟨x, hv, h⟩ := h
    exact rt_o_aload_n hv hd (hk _ _ _ _ _ _ h)
  case istore i =>
    replace h := rt_ck_inv (b := Nat.beq n 2 && rt_okS lv i) h; obtain ⟨hn, h⟩ := h
    rw [Bool.and_eq_true] at hn
    obtain rfl := Nat.eq_of_beq_eq_true hn.1
    replace h := rt_i1_inv h; obtain ⟨x, t, rfl, h⟩ := h
    exact rt_o_istore hn.2 hd (hk _ _ _ _ _ _ h)
  case istore_n i =>
    replace h := rt_ck_inv (b := Nat.beq n 1 && rt_okS lv i.val) h; obtain ⟨hn, h⟩ := h
    rw [Bool.and_eq_true] at hn
    obtain rfl := Nat.eq_of_beq_eq_true hn.1
    replace h := rt_i1_inv h; obtain ⟨x, t, rfl, h⟩ := h
    exact rt_o_istore_n hn.2 hd (hk _ _ _ _ _ _ h)
  case astore i =>
    replace h := rt_ck_inv (b := Nat.beq n 2 && rt_okS lv i) h; obtain ⟨hn, h⟩ := h
    rw [Bool.and_eq_true] at hn
    obtain rfl := Nat.eq_of_beq_eq_true hn.1
    replace h := rt_r1_inv h; obtain ⟨x, t, rfl, h⟩ := h
    exact rt_o_astore hn.2 hd (hk _ _ _ _ _ _ h)
  case astore_n i =>
    replace h := rt_ck_inv (b := Nat.beq n 1 && rt_okS lv i.val) h; obtain ⟨hn, h⟩ := h
    rw [Bool.and_eq_true] at hn
    obtain rfl := Nat.eq_of_beq_eq_true hn.1
    replace h := rt_r1_inv h; obtain ⟨x, t, rfl, h⟩ := h
    exact rt_o_astore_n hn.2 hd (hk _ _ _ _ _ _ h)
  case lstore i =>
    replace h := rt_ck_inv (b := Nat.beq n 2 && (rt_okS lv i && Nat.blt (i + 1) lv.length)) h; obtain ⟨hn, h⟩ := h
    rw [Bool.and_eq_true, Bool.and_eq_true] at hn
    obtain rfl := Nat.eq_of_beq_eq_true hn.1
    replace h := rt_l1_inv h; obtain ⟨x, t, rfl, h⟩ := h
    exact rt_o_lstore hn.2.1 (Nat.le_of_ble_eq_true hn.2.2) hd (hk _ _ _ _ _ _ h)
  case lstore_n i =>
    replace h := rt_ck_inv (b := Nat.beq n 1 && (rt_okS lv i.val && Nat.blt (i.val + 1) lv.length)) h; obtain ⟨hn, h⟩ := h
    rw [Bool.and_eq_true, Bool.and_eq_true] at hn
    obtain rfl := Nat.eq_of_beq_eq_true hn.1
    replace h := rt_l1_inv h; obtain ⟨x, t, rfl, h⟩ := h
    exact rt_o_lstore_n hn.2.1 (Nat.le_of_ble_eq_true hn.2.2) hd (hk _ _ _ _ _ _ h)
  case iinc i v =>
    replace h := rt_ck_inv (b := Nat.beq n 3 && rt_okS lv i) h; obtain ⟨hn, h⟩ := h
    rw [Bool.and_eq_true] at hn
    obtain rfl := Nat.eq_of_beq_eq_true hn.1
    replace h := rt_li_inv h; obtain ⟨x, hv, h⟩ := h
    exact rt_o_iinc hn.2 hv hd (hk _ _ _ _ _ _ h)
  case goto off =>
    replace h := rt_ck_inv (b := Nat.beq n 3 && rt_tk pc off) h; obtain ⟨hn, h⟩ := h
    rw [Bool.and_eq_true] at hn
    obtain rfl := Nat.eq_of_beq_eq_true hn.1
    exact rt_o_goto hn.2 hd (hk _ _ _ _ _ _ h)
  case ifCond cd off =>
    replace h := rt_ck_inv (b := Nat.beq n 3 && rt_tk pc off) h; obtain ⟨hn, h⟩ := h
    rw [Bool.and_eq_true] at hn
    obtain rfl := Nat.eq_of_beq_eq_true hn.1
    replace h := rt_i1_inv h; obtain ⟨x, t, rfl, h⟩ := h
    exact rt_o_ifCond hn.2 hd (rt_br_imp (hk _ _ _ _ _ _) (hk _ _ _ _ _ _) h)
  case if_icmp cd off =>
    replace h := rt_ck_inv (b := Nat.beq n 3 && rt_tk pc off) h; obtain ⟨hn, h⟩ := h
    rw [Bool.and_eq_true] at hn
    obtain rfl := Nat.eq_of_beq_eq_true hn.1
    replace h := rt_i1_inv h; obtain ⟨y, t, rfl, h⟩ := h
    replace h := rt_i1_inv h; obtain ⟨x, t, rfl, h⟩ := h
    exact rt_o_icmp hn.2 hd (rt_br_imp (hk _ _ _ _ _ _) (hk _ _ _ _ _ _) h)
  case tableswitch dflt lo hi offs =>
    replace h := rt_ck_inv (b := rt_tk pc dflt && decide (lo + (offs.toList.length : Int) = hi + 1)) h; obtain ⟨hn, h⟩ := h
    rw [Bool.and_eq_true] at hn
    replace h := rt_i1_inv h; obtain ⟨x, t, rfl, h⟩ := h
    exact rt_o_tsw hn.1 (of_decide_eq_true hn.2) hd (fun q => hk _ _ _ _ _ _ (h.1 q)) (rt_sw_imp (fun _ q => hk _ _ _ _ _ _ q) h.2)
  case lookupswitch dflt ps =>
    replace h := rt_ck_inv (b := ((ps.toList.zip (ps.toList.drop 1)).all (fun (a, next) => a.1 < next.1)) && ps.toList.all (fun q => decide ((Int32.ofInt q.1).toInt = q.1))) h; obtain ⟨hn, h⟩ := h
    rw [Bool.and_eq_true] at hn
    replace h := rt_i1_inv h; obtain ⟨x, t, rfl, h⟩ := h
    exact rt_o_lsw hn.1 hn.2 hd (rt_lsw_imp (fun _ q => hk _ _ _ _ _ _ q) h)
  case getfield x =>
    replace h := rt_ck_inv (b := Nat.beq n 3) h; obtain ⟨hn, h⟩ := h
    obtain rfl := Nat.eq_of_beq_eq_true hn
    replace h := rt_fnd_inv h; obtain ⟨⟨ci, j, tt⟩, hv, h⟩ := h
    replace h := rt_r1_inv h; obtain ⟨q, t, rfl, h⟩ := h
    replace h := rt_ck_inv h; obtain ⟨ho, h⟩ := h
    obtain ⟨ho, hg⟩ := (Bool.and_eq_true _ _).mp ho
    exact rt_o_getfield (hz.1 _ hv) ho hg hd (hk _ _ _ _ _ _ h)
  case putfield x =>
    replace h := rt_ck_inv (b := Nat.beq n 3) h; obtain ⟨hn, h⟩ := h
    obtain rfl := Nat.eq_of_beq_eq_true hn
    replace h := rt_fnd_inv h; obtain ⟨⟨ci, j, tt⟩, hv, h⟩ := h
    have hf := hz.1 _ hv
    revert h
    match tt, hf with
    | 0, hf =>
      intro h
      replace h := rt_i1_inv h; obtain ⟨v, t, rfl, h⟩ := h
      replace h := rt_r1_inv h; obtain ⟨q, t, rfl, h⟩ := h
      replace h := rt_ck_inv h; obtain ⟨ho, h⟩ := h
      obtain ⟨q9, g1, g2, g3, g4, -, -⟩ := id hf
      exact rt_o_put (ty := .int) hf (fun q8 h8 => by cases h8.symm.trans g1; exact ⟨(g4 rfl).1, (g4 rfl).2.1⟩) (g4 rfl).2.2 rfl rfl ho hd (hk _ _ _ _ _ _ h)
    | 1, hf =>
      intro h
      replace h := rt_i1_inv h; obtain ⟨v, t, rfl, h⟩ := h
      replace h := rt_r1_inv h; obtain ⟨q, t, rfl, h⟩ := h
      replace h := rt_ck_inv h; obtain ⟨ho, h0, h⟩ := h
      obtain ⟨q9, g1, g2, g3, -, g4, -⟩ := id hf
      exact rt_o_put (ty := .boolean) hf (fun q8 h8 => by cases h8.symm.trans g1; exact ⟨(g4 rfl).1, (g4 rfl).2.1⟩) (g4 rfl).2.2 (by rcases h0 with rfl | rfl <;> rfl) (by rcases h0 with rfl | rfl <;> rfl) ho hd (hk _ _ _ _ _ _ h)
    | 2, hf => exact fun h => False.elim h
    | 3, hf =>
      intro h
      replace h := rt_r1_inv h; obtain ⟨b, t, rfl, h⟩ := h
      replace h := rt_r1_inv h; obtain ⟨q, t, rfl, h⟩ := h
      replace h := rt_ck_inv h; obtain ⟨ho, h⟩ := h
      obtain ⟨ho, hb⟩ := (Bool.and_eq_true _ _).mp ho
      obtain rfl := Nat.eq_of_beq_eq_true ho
      obtain ⟨q9, g1, g2, g3, -, -, g4⟩ := id hf
      obtain ⟨-, -, rfl, rfl⟩ := g4 rfl
      exact rt_o_putr hf hb hd (hk _ _ _ _ _ _ h)
    | tt + 4, hf => exact fun h => False.elim h
  case iaload =>
    replace h := rt_ck_inv (b := Nat.beq n 1) h; obtain ⟨hn, h⟩ := h
    obtain rfl := Nat.eq_of_beq_eq_true hn
    replace h := rt_i1_inv h; obtain ⟨j, t, rfl, h⟩ := h
    replace h := rt_r1_inv h; obtain ⟨q, t, rfl, h⟩ := h
    replace h := rt_ck_inv h; obtain ⟨ho, hj, h⟩ := h
    exact rt_o_iaload ho hj hd (hk _ _ _ _ _ _ h)
  case laload =>
    replace h := rt_ck_inv (b := Nat.beq n 1) h; obtain ⟨hn, h⟩ := h
    obtain rfl := Nat.eq_of_beq_eq_true hn
    replace h := rt_i1_inv h; obtain ⟨j, t, rfl, h⟩ := h
    replace h := rt_r1_inv h; obtain ⟨q, t, rfl, h⟩ := h
    replace h := rt_ck_inv h; obtain ⟨ho, hj, h⟩ := h
    exact rt_o_laload ho hj hd (hk _ _ _ _ _ _ h)
  case baload =>
    replace h := rt_ck_inv (b := Nat.beq n 1) h; obtain ⟨hn, h⟩ := h
    obtain rfl := Nat.eq_of_beq_eq_true hn
    replace h := rt_i1_inv h; obtain ⟨j, t, rfl, h⟩ := h
    replace h := rt_r1_inv h; obtain ⟨q, t, rfl, h⟩ := h
    replace h := rt_ck_inv h; obtain ⟨ho, hj, h⟩ := h
    rcases Bool.or_eq_true_iff.mp ho with ho | ho
    · exact rt_o_baload1 ho hj hd (hk _ _ _ _ _ _ h)
    · exact rt_o_baload2 ho hj hd (hk _ _ _ _ _ _ h)
  case aaload =>
    replace h := rt_ck_inv (b := Nat.beq n 1) h; obtain ⟨hn, h⟩ := h
    obtain rfl := Nat.eq_of_beq_eq_true hn
    replace h := rt_i1_inv h; obtain ⟨j, t, rfl, h⟩ := h
    replace h := rt_r1_inv h; obtain ⟨q, t, rfl, h⟩ := h
    replace h := rt_ck_inv h; obtain ⟨ho, hj, b, hb, h⟩ := h
    exact rt_o_aaload ho hj hb hd (hk _ _ _ _ _ _ h)
  case iastore =>
    replace h := rt_ck_inv (b := Nat.beq n 1) h; obtain ⟨hn, h⟩ := h
    obtain rfl := Nat.eq_of_beq_eq_true hn
    replace h := rt_i1_inv h; obtain ⟨v, t, rfl, h⟩ := h
    replace h := rt_i1_inv h; obtain ⟨j, t, rfl, h⟩ := h
    replace h := rt_r1_inv h; obtain ⟨q, t, rfl, h⟩ := h
    replace h := rt_ck_inv h; obtain ⟨ho, hj, h⟩ := h
    exact rt_o_iastore ho hj hd (hk _ _ _ _ _ _ h)
  case lastore =>
    replace h := rt_ck_inv (b := Nat.beq n 1) h; obtain ⟨hn, h⟩ := h
    obtain rfl := Nat.eq_of_beq_eq_true hn
    replace h := rt_l1_inv h; obtain ⟨v, t, rfl, h⟩ := h
    replace h := rt_i1_inv h; obtain ⟨j, t, rfl, h⟩ := h
    replace h := rt_r1_inv h; obtain ⟨q, t, rfl, h⟩ := h
    replace h := rt_ck_inv h; obtain ⟨ho, hj, h⟩ := h
    exact rt_o_lastore ho hj hd (hk _ _ _ _ _ _ h)
  case bastore =>
    replace h := rt_ck_inv (b := Nat.beq n 1) h; obtain ⟨hn, h⟩ := h
    obtain rfl := Nat.eq_of_beq_eq_true hn
    replace h := rt_i1_inv h; obtain ⟨v, t, rfl, h⟩ := h
    replace h := rt_i1_inv h; obtain ⟨j, t, rfl, h⟩ := h
    replace h := rt_r1_inv h; obtain ⟨q, t, rfl, h⟩ := h
    replace h := rt_ck_inv h; obtain ⟨ho, hj, h⟩ := h
    cases ha : rt_isA q 1 with
    | true =>
      rw [ha] at h
      exact rt_o_bastore1 ha hj hd (hk _ _ _ _ _ _ h)
    | false =>
      rw [ha] at h ho
      exact rt_o_bastore2 (by simpa using ho) hj hd (hk _ _ _ _ _ _ h)
  case arraylength =>
    replace h := rt_ck_inv (b := Nat.beq n 1) h; obtain ⟨hn, h⟩ := h
    obtain rfl := Nat.eq_of_beq_eq_true hn
    replace h := rt_r1_inv h; obtain ⟨q, t, rfl, h⟩ := h
    replace h := rt_ck_inv h; obtain ⟨ho, h⟩ := h
    rw [Bool.and_eq_true] at ho
    exact rt_o_alen (Nat.le_of_ble_eq_true ho.1) (Nat.le_of_ble_eq_true ho.2) hd (hk _ _ _ _ _ _ h)
  case invokevirtual x =>
    replace h := rt_ck_inv (b := Nat.beq n 3) h; obtain ⟨hn, h⟩ := h
    obtain rfl := Nat.eq_of_beq_eq_true hn
    revert h hk
    cases d with
    | zero => exact fun _ h => False.elim h
    | succ d =>
      intro hk h
      replace h := rt_fnd_inv h; obtain ⟨⟨K', n9, ci⟩, hv, h⟩ := h
      replace h := rt_popn_inv h; obtain ⟨as, t, rfl, hn, h⟩ := h
      replace h := rt_r1_inv h; obtain ⟨b, t, rfl, h⟩ := h
      rw [List.append_nil] at h
      obtain ⟨hw, hok⟩ := hz.2.1 _ hv
      revert h
      match ci, hok with
      | none, hok => exact fun h => False.elim h
      | some ci, hok =>
        intro h
        obtain ⟨ho, h⟩ := h
        replace h := rt_ck_inv h; obtain ⟨hsm, h⟩ := h
        exact rt_o_invv hw hok hn ho (Nat.le_of_ble_eq_true hsm) hd h (fun v I' L' r' q => hk _ _ _ _ _ _ q)
  case invokestatic x =>
    replace h := rt_ck_inv (b := Nat.beq n 3) h; obtain ⟨hn, h⟩ := h
    obtain rfl := Nat.eq_of_beq_eq_true hn
    revert h hk
    cases d with
    | zero => exact fun _ h => False.elim h
    | succ d =>
      intro hk h
      cases hac : rt_fo z.2.2.2.2 x with
      | some kk =>
        simp only [rt_wp1, hac] at h
        have hm := hz.2.2.2.2 _ (rt_fo_inv hac)
        revert h
        match kk, hm with
        | 0, hm =>
          intro h
          replace h := rt_i1_inv h; obtain ⟨cn, t, rfl, h⟩ := h
          replace h := rt_i1_inv h; obtain ⟨dp, t, rfl, h⟩ := h
          replace h := rt_r1_inv h; obtain ⟨b, t, rfl, h⟩ := h
          replace h := rt_i1_inv h; obtain ⟨sp, t, rfl, h⟩ := h
          replace h := rt_r1_inv h; obtain ⟨a, t, rfl, h⟩ := h
          replace h := rt_ck_inv h; obtain ⟨ho, hc, h⟩ := h
          rw [Bool.and_eq_true, Bool.and_eq_true] at ho
          exact rt_o_copy hm ho.1 ho.2.1 (Nat.le_of_ble_eq_true ho.2.2) hc hd (hk _ _ _ _ _ _ h)
        | 1, hm =>
          intro h
          replace h := rt_i1_inv h; obtain ⟨y, t, rfl, h⟩ := h
          replace h := rt_i1_inv h; obtain ⟨x, t, rfl, h⟩ := h
          replace h := rt_ck_inv h; obtain ⟨hsm, h⟩ := h
          exact rt_o_max hm (Nat.le_of_ble_eq_true hsm) hd (hk _ _ _ _ _ _ h)
        | 2, hm =>
          intro h
          replace h := rt_i1_inv h; obtain ⟨y, t, rfl, h⟩ := h
          replace h := rt_i1_inv h; obtain ⟨x, t, rfl, h⟩ := h
          replace h := rt_ck_inv h; obtain ⟨hsm, h⟩ := h
          exact rt_o_min hm (Nat.le_of_ble_eq_true hsm) hd (hk _ _ _ _ _ _ h)
        | 3, hm =>
          intro h
          replace h := rt_i1_inv h; obtain ⟨x, t, rfl, h⟩ := h
          replace h := rt_ck_inv h; obtain ⟨hsm, h⟩ := h
          exact rt_o_abs hm (Nat.le_of_ble_eq_true hsm) hd (hk _ _ _ _ _ _ h)
        | kk + 4, hm => exact fun h => False.elim h
      | none =>
        simp only [rt_wp1, hac] at h
        replace h := rt_fnd_inv h; obtain ⟨⟨K', n9, ci⟩, hv, h⟩ := h
        replace h := rt_popn_inv h; obtain ⟨as, t, rfl, hn, h⟩ := h
        rw [List.append_nil] at h
        obtain ⟨hw, hok⟩ := hz.2.1 _ hv
        revert h
        match ci, hok with
        | some ci, hok => exact fun h => False.elim h
        | none, hok =>
          intro h
          replace h := rt_ck_inv h; obtain ⟨hsm, h⟩ := h
          exact rt_o_invs hw hok hn (Nat.le_of_ble_eq_true hsm) hd h (fun v I' L' r' q => hk _ _ _ _ _ _ q)
  case ireturn =>
    replace h := rt_ck_inv (b := Nat.beq n 1) h; obtain ⟨hn, h⟩ := h
    obtain rfl := Nat.eq_of_beq_eq_true hn
    match st, h with
    | [.int v], h =>
      cases hr : K.2.2.2 with
      | none => rw [hr] at h; exact False.elim h
      | some ty =>
        rw [hr] at h
        cases ty <;> first | exact False.elim h | exact rt_o_iret hr rfl hd h | (obtain ⟨h0, h⟩ := h; exact rt_o_iret hr (by rcases h0 with rfl | rfl <;> rfl) hd h)
  case return_ =>
    replace h := rt_ck_inv (b := Nat.beq n 1) h; obtain ⟨hn, h⟩ := h
    obtain rfl := Nat.eq_of_beq_eq_true hn
    match st, h with
    | [], h =>
      cases hr : K.2.2.2 with
      | none => rw [hr] at h; exact rt_o_vret hr hd h
      | some ty => rw [hr] at h; exact False.elim h
  all_goals exact False.elim h
theorem rt_sound {G : rt_G} {d : Nat} {K : rt_K} {Q : rt_Q} {z : rt_Z} (hz : rt_okZ K.1.cls z) : ∀ {is : List (Instr × Nat)} {pc : Nat} {lv : rt_V} {st : List Value} {I : rt_I} {L : rt_L} {r : Nat}, rt_dec K.2.1 pc is → rt_wp G d z K.2.2.2 Q (rt_AW G d K Q) is pc lv st I L r → rt_AW G d K Q pc lv st I L r
  | [], _, _, _, _, _, _, _, h => h
  | q :: t, pc, lv, st, I, L, r, hd, h => by
    refine rt_sound1 hz hd.1 (fun pc' lv' st' I' L' r' hq => ?_) h
    cases hb : Nat.beq pc' (pc + q.2) with
    | false => simp only [hb] at hq; exact hq
    | true =>
      simp only [hb] at hq
      obtain rfl := Nat.eq_of_beq_eq_true hb
      exact rt_sound hz hd.2 hq
/-- a block: its bytes by the kernel, the rest by computation -/
theorem rt_blk {G : rt_G} {d : Nat} {K : rt_K} {Q : rt_Q} {z : rt_Z} (hz : rt_okZ K.1.cls z) {is : List (Instr × Nat)} {pc : Nat} {lv : rt_V} {st : List Value} {I : rt_I} {L : rt_L} {r : Nat} (hd : rt_decB K.2.1 pc is = true) (h : rt_wp G d z K.2.2.2 Q (rt_AW G d K Q) is pc lv st I L r) : rt_AW G d K Q pc lv st I L r := rt_sound hz (rt_dec_of hd) h
/-- a local that is no more wanted -/
theorem rt_drop {G : rt_G} {d : Nat} {K : rt_K} {Q : rt_Q} {pc : Nat} {lv : rt_V} {st : List Value} {I : rt_I} {L : rt_L} {r : Nat} (i : Nat) (h : rt_AW G d K Q pc (lv.set i none) st I L r) : rt_AW G d K Q pc lv st I L r := by
  intro l p e s m args below meth c H locs ls C hP hS hl
  refine h l p e s m args below meth c H locs ls C hP hS ⟨by rw [List.length_set]; exact hl.1, hl.2.1, hl.2.2.1, fun q hq => ?_⟩
  obtain ⟨j, w⟩ := q
  obtain ⟨v, hv, rfl⟩ := rt_lvl_mem.mp hq
  by_cases hj : j = i
  · subst hj
    rw [List.getElem?_set] at hv
    simp at hv
  · rw [List.getElem?_set_ne (Ne.symm hj)] at hv
    exact rt_lv_at hl hv
/-- more depth does no harm -/
theorem rt_Call_deep {G : rt_G} {d d' : Nat} {K : rt_K} {Q : rt_Q} {av : List Value} {I : rt_I} {L : rt_L} {r : Nat} (hd : d ≤ d') (h : rt_Call G d K av I L r Q) : rt_Call G d' K av I L r Q := by
  intro l p e ha hc hk s m args below hf happ hP hT
  refine h l p e ha hc hk s m args below hf ?_ hP hT
  unfold Spec.appliesLoose at happ ⊢
  rw [hf] at happ ⊢
  simp only [Bool.and_eq_true, decide_eq_true_eq, State.hasRoom] at happ ⊢
  obtain ⟨⟨h1, h2⟩, h3⟩ := happ
  refine ⟨⟨h1, ?_⟩, h3⟩
  have e1 : (headSpec (rt_ws K) (rt_rm d)).room = rt_rm d := rfl
  have e2 : (headSpec (rt_ws K) (rt_rm d')).room = rt_rm d' := rfl
  rw [e2] at h2
  rw [e1]
  simp only [rt_rm] at h2 ⊢
  obtain ⟨⟨⟨⟨a1, b1, b2, b3, b4, b5⟩, a3⟩, a4⟩, a5⟩ := h2
  exact ⟨⟨⟨⟨by omega, by omega, by omega, by omega, by omega, b5⟩, a3⟩, a4⟩, a5⟩
