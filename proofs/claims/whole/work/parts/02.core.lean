/-! THE PICTURE: cells by numbers; ints, longs; references are static but for the model's field read -/
abbrev rt_I : Type := Nat → Nat → Int32
abbrev rt_L : Type := Nat → Nat → Int64
abbrev rt_Q : Type := Int32 → rt_I → rt_L → Nat → Prop
abbrev rt_V : Type := List (Option Value)
/-- class numbers, slots, array classes, addresses -/
abbrev rt_G : Type := (Nat → ClassId) × (Nat → Nat → Nat) × (Nat → ClassId) × (Nat → Nat)
def rt_u (I : rt_I) (c j : Nat) (v : Int32) : rt_I := fun c' => if c' = c then upd (I c) j v else I c'
def rt_uL (L : rt_L) (c j : Nat) (v : Int64) : rt_L := fun c' => if c' = c then vp_updL (L c) j v else L c'
def rt_uA (I : rt_I) (c : Nat) (f : Nat → Int32) : rt_I := fun c' => if c' = c then f else I c'
def rt_v (ad : Nat → Nat) : Value → Value
  | .ref a => .ref (ad a)
  | v => v
/-- a number past the cells stands for null: the model's field read, before the first text -/
def rt_pm (ad : Nat → Nat) : Option Nat → Option Nat
  | none => none
  | some a => match Nat.blt a 136 with
    | true => some (ad a)
    | false => none
def rt_gok (r c j : Nat) : Bool := match rt_pt r c j with
  | none => true
  | some b => Nat.blt b 136
def rt_fv (ad : Nat → Nat) (I : rt_I) (r ci c j : Nat) : Value := if rt_isR ci j = true then va_rf (rt_pm ad (rt_pt r c j)) else .int (I c j)
def rt_gv (I : rt_I) (r ci c j : Nat) : Value := match rt_isR ci j with
  | true => va_rf (rt_pt r c j)
  | false => .int (I c j)
def rt_en (ad : Nat → Nat) (cA : Nat → ClassId) (I : rt_I) (L : rt_L) (r c : Nat) : va_E := match rt_lay c with
  | (0, n) => .inl (cA 0, n, .inl (I c))
  | (1, n) => .inl (cA 1, n, .inl (I c))
  | (2, n) => .inl (cA 2, n, .inl (I c))
  | (3, n) => .inl (cA 3, n, .inr (.inl (L c)))
  | (4, n) => .inl (cA 4, n, .inr (.inr (.inr (.inr (fun j => (rt_pt r c j).map ad)))))
  | (k + 5, n) => .inr (k, (List.range n).map (rt_fv ad I r k c))
def rt_W (G : rt_G) (I : rt_I) (L : rt_L) (r : Nat) : va_W := (List.range rt_NC).map (fun c => (G.2.2.2 c, rt_en G.2.2.2 G.2.2.1 I L r c))
def rt_ty (G : rt_G) : List (ClassId × FieldType) := [(G.2.2.1 0, .int), (G.2.2.1 1, .byte), (G.2.2.1 2, .boolean), (G.2.2.1 3, .long), (G.2.2.1 4, .object RX4)]
def rt_A (G : rt_G) : Nat → Prop := fun q => ∃ c, c < rt_NC ∧ G.2.2.2 c = q
def rt_J (G : rt_G) : Prop := ∀ i j, i < rt_NC → j < rt_NC → G.2.2.2 i = G.2.2.2 j → i = j
def rt_P (G : rt_G) (I : rt_I) (L : rt_L) (r : Nat) (H : Heap) : Prop := va_P (G.1, G.2.1) vwCl (rt_W G I L r) H
def rt_KK (G : rt_G) (U : State) : Prop := va_K (G.1, G.2.1) vwCl (rt_ty G) U
def rt_rm (d : Nat) : Room := { frames := d, cells := 0, slots := 0, locals := 80 * d }
def rt_rv (K : rt_K) (v : Int32) : Option Value := match K.2.2.2 with
  | none => none
  | some _ => some (.int v)
def rt_Qc (G : rt_G) (K : rt_K) (Q : rt_Q) : Array Value → State → Outcome → State → Prop := fun _ st o t =>
  (∃ (v : Int32) (I : rt_I) (L : rt_L) (r : Nat), o = .returned (rt_rv K v) ∧ Q v I L r ∧ rt_P G I L r t.heap) ∧ va_F (rt_A G) st t
def rt_Pc (G : rt_G) (av : List Value) (I : rt_I) (L : rt_L) (r : Nat) : Array Value → State → Prop := va_Pc (av.map (rt_v G.2.2.2)) (fun U => rt_P G I L r U.heap ∧ rt_KK G U ∧ rt_J G)
def rt_ws (K : rt_K) : List Cond := Cond.code K.1 K.2.1 K.2.2.1 K.2.2.2 :: rt_tbl
/-- a method's contract, as a weakest precondition: from the picture I L r with the arguments av it returns, with Q -/
def rt_Call (G : rt_G) (d : Nat) (K : rt_K) (av : List Value) (I : rt_I) (L : rt_L) (r : Nat) (Q : rt_Q) : Prop :=
  ∀ l : Launch, Met l K.1 (rt_ws K) (rt_rm d) (rt_Pc G av I L r) (rt_Qc G K Q) 0 0 (rt_A G)
/-- the locals -/
def rt_lvl (ad : Nat → Nat) (lv : rt_V) : List (Nat × Value) := (List.range lv.length).filterMap (fun i => match lv[i]? with
  | some (some v) => some (i, rt_v ad v)
  | _ => none)
def rt_lv (ad : Nat → Nat) (nL : Nat) (ls : Array Slot) (lv : rt_V) : Prop := lv.length = nL ∧ lv_has ls nL (rt_lvl ad lv)
def rt_C (G : rt_G) (K : rt_K) (p : Program) (s : State) (m : MethodId) (args : Array Value) (meth : Method) (c : Code) : Prop :=
  p.tables.exec = Jvm.exec ∧ c.code = K.2.1 ∧ meth.sig.returnType = K.2.2.2 ∧ c.maxLocals = K.2.2.1 ∧ s.vm.findClass K.1.cls = some m.cls ∧ (∀ w ∈ rt_tbl, w.before args s = true) ∧ meth.locks = false ∧ rt_KK G s ∧ rt_J G
/-- the machine at pc of the method K, with locals lv and operands st, in the picture I L r, comes to a return with Q -/
def rt_AW (G : rt_G) (d : Nat) (K : rt_K) (Q : rt_Q) (pc : Nat) (lv : rt_V) (st : List Value) (I : rt_I) (L : rt_L) (r : Nat) : Prop :=
  ∀ (l : Launch) (p : Program) (e : Env) (s : State) (m : MethodId) (args : Array Value) (below : List Frame) (meth : Method) (c : Code) (H : Heap) (locs : List Loc) (ls : Array Slot),
    rt_C G K p s m args meth c → rt_P G I L r H → va_S (rt_A G) s.heap H locs → rt_lv G.2.2.2 K.2.2.1 ls lv →
    W p l e (rt_rm d) s m args below meth c H locs 0 0 (MQ below (rt_Qc G K Q) args s 0 0 (rt_A G)) (F0 m pc ls (st.map (rt_v G.2.2.2)))
/-! small words of the weakest precondition, each with its inversion -/
def rt_ck (b : Bool) (P : Prop) : Prop := match b with
  | true => P
  | false => False
theorem rt_ck_inv {b : Bool} {P : Prop} (h : rt_ck b P) : b = true ∧ P := by
  cases b with
  | true => exact ⟨rfl, h⟩
  | false => exact h.elim
def rt_i1 (st : List Value) (P : Int32 → List Value → Prop) : Prop := match st with
  | .int x :: t => P x t
  | _ => False
theorem rt_i1_inv {st : List Value} {P : Int32 → List Value → Prop} (h : rt_i1 st P) : ∃ x t, st = .int x :: t ∧ P x t := by
  unfold rt_i1 at h
  split at h
  · exact ⟨_, _, rfl, h⟩
  · exact h.elim
def rt_l1 (st : List Value) (P : Int64 → List Value → Prop) : Prop := match st with
  | .long x :: t => P x t
  | _ => False
theorem rt_l1_inv {st : List Value} {P : Int64 → List Value → Prop} (h : rt_l1 st P) : ∃ x t, st = .long x :: t ∧ P x t := by
  unfold rt_l1 at h
  split at h
  · exact ⟨_, _, rfl, h⟩
  · exact h.elim
def rt_r1 (st : List Value) (P : Nat → List Value → Prop) : Prop := match st with
  | .ref a :: t => P a t
  | _ => False
theorem rt_r1_inv {st : List Value} {P : Nat → List Value → Prop} (h : rt_r1 st P) : ∃ x t, st = .ref x :: t ∧ P x t := by
  unfold rt_r1 at h
  split at h
  · exact ⟨_, _, rfl, h⟩
  · exact h.elim
def rt_v1 (st : List Value) (P : Value → List Value → Prop) : Prop := match st with
  | v :: t => rt_ck (v.category == 1) (P v t)
  | _ => False
theorem rt_v1_inv {st : List Value} {P : Value → List Value → Prop} (h : rt_v1 st P) : ∃ x t, st = x :: t ∧ x.category = 1 ∧ P x t := by
  unfold rt_v1 at h
  split at h
  · have := rt_ck_inv h
    exact ⟨_, _, rfl, by simpa using this.1, this.2⟩
  · exact h.elim
def rt_fnd {α : Type} (l : List (Nat × α)) (x : Nat) (P : α → Prop) : Prop := match l with
  | [] => False
  | e :: t => match Nat.beq e.1 x with
    | true => P e.2
    | false => rt_fnd t x P
theorem rt_fnd_inv {α : Type} {l : List (Nat × α)} {x : Nat} {P : α → Prop} (h : rt_fnd l x P) : ∃ a, (x, a) ∈ l ∧ P a := by
  induction l with
  | nil => exact h.elim
  | cons e t ih =>
    unfold rt_fnd at h
    split at h
    · rename_i hb
      have : e.1 = x := Nat.eq_of_beq_eq_true hb
      exact ⟨e.2, by rw [← this]; exact List.mem_cons_self, h⟩
    · obtain ⟨a, h1, h2⟩ := ih h
      exact ⟨a, List.mem_cons_of_mem _ h1, h2⟩
def rt_li (lv : rt_V) (i : Nat) (P : Int32 → Prop) : Prop := match lv[i]? with
  | some (some (.int x)) => P x
  | _ => False
theorem rt_li_inv {lv : rt_V} {i : Nat} {P : Int32 → Prop} (h : rt_li lv i P) : ∃ x, lv[i]? = some (some (.int x)) ∧ P x := by
  unfold rt_li at h
  split at h
  · exact ⟨_, by assumption, h⟩
  · exact h.elim
def rt_ll (lv : rt_V) (i : Nat) (P : Int64 → Prop) : Prop := match lv[i]? with
  | some (some (.long x)) => P x
  | _ => False
theorem rt_ll_inv {lv : rt_V} {i : Nat} {P : Int64 → Prop} (h : rt_ll lv i P) : ∃ x, lv[i]? = some (some (.long x)) ∧ P x := by
  unfold rt_ll at h
  split at h
  · exact ⟨_, by assumption, h⟩
  · exact h.elim
def rt_lr (lv : rt_V) (i : Nat) (P : Nat → Prop) : Prop := match lv[i]? with
  | some (some (.ref x)) => P x
  | _ => False
theorem rt_lr_inv {lv : rt_V} {i : Nat} {P : Nat → Prop} (h : rt_lr lv i P) : ∃ x, lv[i]? = some (some (.ref x)) ∧ P x := by
  unfold rt_lr at h
  split at h
  · exact ⟨_, by assumption, h⟩
  · exact h.elim
/-- a place of the locals that may be written: the one ahead of it holds no long -/
def rt_okS (lv : rt_V) (i : Nat) : Bool := Nat.blt i lv.length && match i with
  | 0 => true
  | j + 1 => match lv[j]? with
    | some (some v) => v.category == 1
    | _ => true
def rt_isO (c ci j : Nat) : Bool := Nat.blt c rt_NC && (Nat.beq (rt_lay c).1 (ci + 5) && Nat.blt j (rt_lay c).2)
def rt_isA (c k : Nat) : Bool := Nat.blt c rt_NC && Nat.beq (rt_lay c).1 k
def rt_popn (n : Nat) (st acc : List Value) (P : List Value → List Value → Prop) : Prop := match n with
  | 0 => P acc st
  | n + 1 => match st with
    | [] => False
    | v :: t => rt_popn n t (v :: acc) P
theorem rt_popn_inv {n : Nat} : ∀ {st acc : List Value} {P : List Value → List Value → Prop}, rt_popn n st acc P → ∃ as t, st = as.reverse ++ t ∧ as.length = n ∧ P (as ++ acc) t := by
  induction n with
  | zero => intro st acc P h; exact ⟨[], st, rfl, rfl, h⟩
  | succ n ih =>
    intro st acc P h
    cases st with
    | nil => exact h.elim
    | cons v t =>
      obtain ⟨as, u, h1, h2, h3⟩ := ih (show rt_popn n t (v :: acc) P from h)
      exact ⟨as ++ [v], u, by simp [h1], by simp [h2], by simpa using h3⟩
def rt_sm (st : List Value) : Nat := (st.map fun v => v.category).sum
theorem rt_sm_map (ad : Nat → Nat) (st : List Value) : ((st.map (rt_v ad)).map fun v => v.category).sum = rt_sm st := by
  unfold rt_sm
  rw [List.map_map]
  congr 2
  funext v
  cases v <;> rfl
def rt_pu (K : rt_K) (v : Int32) (t : List Value) : List Value := match K.2.2.2 with
  | none => t
  | some _ => .int v :: t
def rt_fo (l : List (Nat × Nat)) (x : Nat) : Option Nat := match l with
  | [] => none
  | e :: t => match Nat.beq e.1 x with
    | true => some e.2
    | false => rt_fo t x
theorem rt_fo_inv {l : List (Nat × Nat)} {x k : Nat} (h : rt_fo l x = some k) : (x, k) ∈ l := by
  induction l with
  | nil => cases h
  | cons e t ih =>
    unfold rt_fo at h
    split at h
    · rename_i hb
      have h1 : e.1 = x := Nat.eq_of_beq_eq_true hb
      have h2 : e.2 = k := Option.some.inj h
      rw [← h1, ← h2]
      exact List.mem_cons_self
    · exact List.mem_cons_of_mem _ (ih h)
def rt_max (x y : Int32) : Int32 := if x < y then y else x
def rt_min (x y : Int32) : Int32 := if y < x then y else x
def rt_abs (x : Int32) : Int32 := if 0 ≤ x then x else 0 - x
def rt_rem (x y : Int32) : Int32 := x - x / y * y
def rt_ushr (x y : Int32) : Int32 := (x.toUInt32 >>> (y.toUInt32 &&& Int32.toUInt32 31)).toInt32
def rt_lushr (x : Int64) (y : Int32) : Int64 := (x.toUInt64 >>> (y.toInt64.toUInt64 &&& Int64.toUInt64 63)).toInt64
def rt_br (c : Jvm.ClassFile.Cond) (x y : Int32) (A B : Prop) : Prop := match c with
  | .eq => (x = y → A) ∧ (¬ x = y → B)
  | .ne => (¬ x = y → A) ∧ (x = y → B)
  | .lt => (x < y → A) ∧ (¬ x < y → B)
  | .ge => (y ≤ x → A) ∧ (¬ y ≤ x → B)
  | .gt => (y < x → A) ∧ (¬ y < x → B)
  | .le => (x ≤ y → A) ∧ (¬ x ≤ y → B)
def rt_tg (pc : Nat) (off : Int) : Nat := ((pc : Int) + off).toNat
def rt_tk (pc : Nat) (off : Int) : Bool := decide (0 ≤ (pc : Int) + off)
theorem rt_tg_eq {pc : Nat} {off : Int} (h : rt_tk pc off = true) : (pc : Int) + off = (rt_tg pc off : Int) := by
  have h1 : 0 ≤ (pc : Int) + off := of_decide_eq_true h
  unfold rt_tg
  omega
def rt_sw (pc : Nat) (lo : Int) (offs : List Int) (x : Int32) (K : Nat → Prop) : Prop := match offs with
  | [] => True
  | o :: t => (x = Int32.ofInt lo → rt_ck (rt_tk pc o) (K (rt_tg pc o))) ∧ rt_sw pc (lo + 1) t x K
def rt_lsw (pc : Nat) (ps : List (Int × Int)) (dflt : Int) (x : Int32) (K : Nat → Prop) : Prop := match ps with
  | [] => rt_ck (rt_tk pc dflt) (K (rt_tg pc dflt))
  | q :: t => (x = Int32.ofInt q.1 → rt_ck (rt_tk pc q.2) (K (rt_tg pc q.2))) ∧ (¬ x = Int32.ofInt q.1 → rt_lsw pc t dflt x K)
def rt_ic (v : Int) : Int32 := match v with
  | .ofNat n => Int32.ofNat n
  | .negSucc n => -(Int32.ofNat (n + 1))
theorem rt_ic_eq (v : Int) : rt_ic v = Int32.ofInt v := by
  cases v with
  | ofNat n => exact Int32.ofInt_eq_ofNat.symm
  | negSucc n => exact Int32.neg_ofNat (n := n + 1)
def rt_in8 (v : Int) : Bool := decide (-128 ≤ v) && decide (v ≤ 127)
def rt_in16 (v : Int) : Bool := decide (-32768 ≤ v) && decide (v ≤ 32767)
theorem rt_ic8 {v : Int} (h : rt_in8 v = true) : (Int8.ofInt v).toInt32 = rt_ic v := by
  unfold rt_in8 at h
  simp only [Bool.and_eq_true, decide_eq_true_eq] at h
  rw [rt_ic_eq]
  exact Int8.toInt32_ofInt (show (-128 : Int) ≤ v from h.1) (show v ≤ (127 : Int) from h.2)
theorem rt_ic16 {v : Int} (h : rt_in16 v = true) : (Int16.ofInt v).toInt32 = rt_ic v := by
  unfold rt_in16 at h
  simp only [Bool.and_eq_true, decide_eq_true_eq] at h
  rw [rt_ic_eq]
  exact Int16.toInt32_ofInt (show (-32768 : Int) ≤ v from h.1) (show v ≤ (32767 : Int) from h.2)
/-- the weakest precondition of one instruction -/
def rt_wp1 (G : rt_G) (d : Nat) (z : rt_Z) (ret : Option FieldType) (Q : rt_Q) (i : Instr) (n pc : Nat) (lv : rt_V) (st : List Value) (I : rt_I) (L : rt_L) (r : Nat)
    (k : Nat → rt_V → List Value → rt_I → rt_L → Nat → Prop) : Prop := match i with
  | .iconst v => rt_ck (Nat.beq n 1) (k (pc + 1) lv (.int (rt_ic v) :: st) I L r)
  | .bipush v => rt_ck (Nat.beq n 2 && rt_in8 v) (k (pc + 2) lv (.int (rt_ic v) :: st) I L r)
  | .sipush v => rt_ck (Nat.beq n 3 && rt_in16 v) (k (pc + 3) lv (.int (rt_ic v) :: st) I L r)
  | .lconst v => rt_ck (Nat.beq n 1) (k (pc + 1) lv (.long (Int64.ofNat (v : Nat)) :: st) I L r)
  | .ldc x => rt_ck (Nat.beq n 2) (rt_fnd z.2.2.1 x (fun v => k (pc + 2) lv (.int v :: st) I L r))
  | .ldc_w x => rt_ck (Nat.beq n 3) (rt_fnd z.2.2.1 x (fun v => k (pc + 3) lv (.int v :: st) I L r))
  | .ldc2_w x => rt_ck (Nat.beq n 3) (rt_fnd z.2.2.2.1 x (fun v => k (pc + 3) lv (.long v :: st) I L r))
  | .iload i => rt_ck (Nat.beq n 2) (rt_li lv i (fun x => k (pc + 2) lv (.int x :: st) I L r))
  | .iload_n i => rt_ck (Nat.beq n 1) (rt_li lv i.val (fun x => k (pc + 1) lv (.int x :: st) I L r))
  | .lload i => rt_ck (Nat.beq n 2) (rt_ll lv i (fun x => k (pc + 2) lv (.long x :: st) I L r))
  | .lload_n i => rt_ck (Nat.beq n 1) (rt_ll lv i.val (fun x => k (pc + 1) lv (.long x :: st) I L r))
  | .aload i => rt_ck (Nat.beq n 2) (rt_lr lv i (fun x => k (pc + 2) lv (.ref x :: st) I L r))
  | .aload_n i => rt_ck (Nat.beq n 1) (rt_lr lv i.val (fun x => k (pc + 1) lv (.ref x :: st) I L r))
  | .istore i => rt_ck (Nat.beq n 2 && rt_okS lv i) (rt_i1 st (fun x t => k (pc + 2) (lv.set i (some (.int x))) t I L r))
  | .istore_n i => rt_ck (Nat.beq n 1 && rt_okS lv i.val) (rt_i1 st (fun x t => k (pc + 1) (lv.set i.val (some (.int x))) t I L r))
  | .astore i => rt_ck (Nat.beq n 2 && rt_okS lv i) (rt_r1 st (fun x t => k (pc + 2) (lv.set i (some (.ref x))) t I L r))
  | .astore_n i => rt_ck (Nat.beq n 1 && rt_okS lv i.val) (rt_r1 st (fun x t => k (pc + 1) (lv.set i.val (some (.ref x))) t I L r))
  | .lstore i => rt_ck (Nat.beq n 2 && (rt_okS lv i && Nat.blt (i + 1) lv.length)) (rt_l1 st (fun x t => k (pc + 2) ((lv.set i (some (.long x))).set (i + 1) none) t I L r))
  | .lstore_n i => rt_ck (Nat.beq n 1 && (rt_okS lv i.val && Nat.blt (i.val + 1) lv.length)) (rt_l1 st (fun x t => k (pc + 1) ((lv.set i.val (some (.long x))).set (i.val + 1) none) t I L r))
  | .iinc i v => rt_ck (Nat.beq n 3 && rt_okS lv i) (rt_li lv i (fun x => k (pc + 3) (lv.set i (some (.int (x + rt_ic v)))) st I L r))
  | .iadd => rt_ck (Nat.beq n 1) (rt_i1 st (fun y t => rt_i1 t (fun x t => k (pc + 1) lv (.int (x + y) :: t) I L r)))
  | .isub => rt_ck (Nat.beq n 1) (rt_i1 st (fun y t => rt_i1 t (fun x t => k (pc + 1) lv (.int (x - y) :: t) I L r)))
  | .imul => rt_ck (Nat.beq n 1) (rt_i1 st (fun y t => rt_i1 t (fun x t => k (pc + 1) lv (.int (x * y) :: t) I L r)))
  | .idiv => rt_ck (Nat.beq n 1) (rt_i1 st (fun y t => rt_i1 t (fun x t => (¬ y = 0) ∧ k (pc + 1) lv (.int (x / y) :: t) I L r)))
  | .irem => rt_ck (Nat.beq n 1) (rt_i1 st (fun y t => rt_i1 t (fun x t => (¬ y = 0) ∧ k (pc + 1) lv (.int (rt_rem x y) :: t) I L r)))
  | .iand => rt_ck (Nat.beq n 1) (rt_i1 st (fun y t => rt_i1 t (fun x t => k (pc + 1) lv (.int (x &&& y) :: t) I L r)))
  | .ior => rt_ck (Nat.beq n 1) (rt_i1 st (fun y t => rt_i1 t (fun x t => k (pc + 1) lv (.int (x ||| y) :: t) I L r)))
  | .ixor => rt_ck (Nat.beq n 1) (rt_i1 st (fun y t => rt_i1 t (fun x t => k (pc + 1) lv (.int (x ^^^ y) :: t) I L r)))
  | .ishl => rt_ck (Nat.beq n 1) (rt_i1 st (fun y t => rt_i1 t (fun x t => k (pc + 1) lv (.int (x <<< (y &&& 31)) :: t) I L r)))
  | .ishr => rt_ck (Nat.beq n 1) (rt_i1 st (fun y t => rt_i1 t (fun x t => k (pc + 1) lv (.int (x >>> (y &&& 31)) :: t) I L r)))
  | .iushr => rt_ck (Nat.beq n 1) (rt_i1 st (fun y t => rt_i1 t (fun x t => k (pc + 1) lv (.int (rt_ushr x y) :: t) I L r)))
  | .ineg => rt_ck (Nat.beq n 1) (rt_i1 st (fun x t => k (pc + 1) lv (.int (-x) :: t) I L r))
  | .ladd => rt_ck (Nat.beq n 1) (rt_l1 st (fun y t => rt_l1 t (fun x t => k (pc + 1) lv (.long (x + y) :: t) I L r)))
  | .lsub => rt_ck (Nat.beq n 1) (rt_l1 st (fun y t => rt_l1 t (fun x t => k (pc + 1) lv (.long (x - y) :: t) I L r)))
  | .lmul => rt_ck (Nat.beq n 1) (rt_l1 st (fun y t => rt_l1 t (fun x t => k (pc + 1) lv (.long (x * y) :: t) I L r)))
  | .land => rt_ck (Nat.beq n 1) (rt_l1 st (fun y t => rt_l1 t (fun x t => k (pc + 1) lv (.long (x &&& y) :: t) I L r)))
  | .lor => rt_ck (Nat.beq n 1) (rt_l1 st (fun y t => rt_l1 t (fun x t => k (pc + 1) lv (.long (x ||| y) :: t) I L r)))
  | .lcmp => rt_ck (Nat.beq n 1) (rt_l1 st (fun y t => rt_l1 t (fun x t => k (pc + 1) lv (.int (lg_cmp x y) :: t) I L r)))
  | .lshl => rt_ck (Nat.beq n 1) (rt_i1 st (fun y t => rt_l1 t (fun x t => k (pc + 1) lv (.long (x <<< (y.toInt64 &&& 63)) :: t) I L r)))
  | .lushr => rt_ck (Nat.beq n 1) (rt_i1 st (fun y t => rt_l1 t (fun x t => k (pc + 1) lv (.long (rt_lushr x y) :: t) I L r)))
  | .i2l => rt_ck (Nat.beq n 1) (rt_i1 st (fun x t => k (pc + 1) lv (.long x.toInt64 :: t) I L r))
  | .l2i => rt_ck (Nat.beq n 1) (rt_l1 st (fun x t => k (pc + 1) lv (.int x.toInt32 :: t) I L r))
  | .i2b => rt_ck (Nat.beq n 1) (rt_i1 st (fun x t => k (pc + 1) lv (.int x.toInt8.toInt32 :: t) I L r))
  | .i2s => rt_ck (Nat.beq n 1) (rt_i1 st (fun x t => k (pc + 1) lv (.int x.toInt16.toInt32 :: t) I L r))
  | .i2c => rt_ck (Nat.beq n 1) (rt_i1 st (fun x t => k (pc + 1) lv (.int (x.toUInt32 % 65536).toInt32 :: t) I L r))
  | .dup => rt_ck (Nat.beq n 1) (rt_v1 st (fun v t => k (pc + 1) lv (v :: v :: t) I L r))
  | .pop => rt_ck (Nat.beq n 1) (rt_v1 st (fun _ t => k (pc + 1) lv t I L r))
  | .dup_x1 => rt_ck (Nat.beq n 1) (rt_v1 st (fun v t => rt_v1 t (fun w t => k (pc + 1) lv (v :: w :: v :: t) I L r)))
  | .dup2 => rt_ck (Nat.beq n 1) (rt_v1 st (fun v t => rt_v1 t (fun w t => k (pc + 1) lv (v :: w :: v :: w :: t) I L r)))
  | .getfield x => rt_ck (Nat.beq n 3) (rt_fnd z.1 x (fun e => rt_r1 st (fun c t => rt_ck (rt_isO c e.1 e.2.1 && rt_gok r c e.2.1) (k (pc + 3) lv (rt_gv I r e.1 c e.2.1 :: t) I L r))))
  | .putfield x => rt_ck (Nat.beq n 3) (rt_fnd z.1 x (fun e => match e.2.2 with
    | 0 => rt_i1 st (fun v t => rt_r1 t (fun c t => rt_ck (rt_isO c e.1 e.2.1) (k (pc + 3) lv t (rt_u I c e.2.1 v) L r)))
    | 1 => rt_i1 st (fun v t => rt_r1 t (fun c t => rt_ck (rt_isO c e.1 e.2.1) ((v = 0 ∨ v = 1) ∧ k (pc + 3) lv t (rt_u I c e.2.1 v) L r)))
    | 3 => rt_r1 st (fun b t => rt_r1 t (fun c t => rt_ck (Nat.beq c 108 && Nat.blt b 136) (k (pc + 3) lv t I L b)))
    | _ => False))
  | .iaload => rt_ck (Nat.beq n 1) (rt_i1 st (fun j t => rt_r1 t (fun c t => rt_ck (rt_isA c 0) (vp_in j (rt_lay c).2 ∧ k (pc + 1) lv (.int (I c j.toNatClampNeg) :: t) I L r))))
  | .baload => rt_ck (Nat.beq n 1) (rt_i1 st (fun j t => rt_r1 t (fun c t => rt_ck (rt_isA c 1 || rt_isA c 2) (vp_in j (rt_lay c).2 ∧ k (pc + 1) lv (.int (I c j.toNatClampNeg) :: t) I L r))))
  | .laload => rt_ck (Nat.beq n 1) (rt_i1 st (fun j t => rt_r1 t (fun c t => rt_ck (rt_isA c 3) (vp_in j (rt_lay c).2 ∧ k (pc + 1) lv (.long (L c j.toNatClampNeg) :: t) I L r))))
  | .aaload => rt_ck (Nat.beq n 1) (rt_i1 st (fun j t => rt_r1 t (fun c t => rt_ck (rt_isA c 4) (vp_in j (rt_lay c).2 ∧ ∃ b, rt_pt r c j.toNatClampNeg = some b ∧ k (pc + 1) lv (.ref b :: t) I L r))))
  | .iastore => rt_ck (Nat.beq n 1) (rt_i1 st (fun v t => rt_i1 t (fun j t => rt_r1 t (fun c t => rt_ck (rt_isA c 0) (vp_in j (rt_lay c).2 ∧ k (pc + 1) lv t (rt_u I c j.toNatClampNeg v) L r)))))
  | .bastore => rt_ck (Nat.beq n 1) (rt_i1 st (fun v t => rt_i1 t (fun j t => rt_r1 t (fun c t => rt_ck (rt_isA c 1 || rt_isA c 2) (vp_in j (rt_lay c).2 ∧ k (pc + 1) lv t (rt_u I c j.toNatClampNeg (match rt_isA c 1 with | true => vp_nar .byte v | false => vp_nar .boolean v)) L r)))))
  | .lastore => rt_ck (Nat.beq n 1) (rt_l1 st (fun v t => rt_i1 t (fun j t => rt_r1 t (fun c t => rt_ck (rt_isA c 3) (vp_in j (rt_lay c).2 ∧ k (pc + 1) lv t I (rt_uL L c j.toNatClampNeg v) r)))))
  | .arraylength => rt_ck (Nat.beq n 1) (rt_r1 st (fun c t => rt_ck (Nat.blt c rt_NC && Nat.blt (rt_lay c).1 5) (k (pc + 1) lv (.int (Int32.ofNat (rt_lay c).2) :: t) I L r)))
  | .goto off => rt_ck (Nat.beq n 3 && rt_tk pc off) (k (rt_tg pc off) lv st I L r)
  | .ifCond c off => rt_ck (Nat.beq n 3 && rt_tk pc off) (rt_i1 st (fun x t => rt_br c x 0 (k (rt_tg pc off) lv t I L r) (k (pc + 3) lv t I L r)))
  | .if_icmp c off => rt_ck (Nat.beq n 3 && rt_tk pc off) (rt_i1 st (fun y t => rt_i1 t (fun x t => rt_br c x y (k (rt_tg pc off) lv t I L r) (k (pc + 3) lv t I L r))))
  | .tableswitch dflt lo hi offs => rt_ck (rt_tk pc dflt && decide (lo + (offs.toList.length : Int) = hi + 1)) (rt_i1 st (fun x t => (x.toInt < lo ∨ hi < x.toInt → k (rt_tg pc dflt) lv t I L r) ∧ rt_sw pc lo offs.toList x (fun tg => k tg lv t I L r)))
  | .lookupswitch dflt ps => rt_ck (((ps.toList.zip (ps.toList.drop 1)).all (fun (a, next) => a.1 < next.1)) && ps.toList.all (fun q => decide ((Int32.ofInt q.1).toInt = q.1))) (rt_i1 st (fun x t => rt_lsw pc ps.toList dflt x (fun tg => k tg lv t I L r)))
  | .invokevirtual x => rt_ck (Nat.beq n 3) (match d with
    | 0 => False
    | d + 1 => rt_fnd z.2.1 x (fun e => rt_popn e.2.1 st [] (fun as t => rt_r1 t (fun b t => match e.2.2 with
      | none => False
      | some ci => rt_isO b ci 0 = true ∧ rt_ck (Nat.ble (rt_sm t) 8) (rt_Call G d e.1 (.ref b :: as) I L r (fun v I L r => k (pc + 3) lv (rt_pu e.1 v t) I L r))))))
  | .invokestatic x => rt_ck (Nat.beq n 3) (match d with
    | 0 => False
    | d + 1 => match rt_fo z.2.2.2.2 x with
      | some 0 => rt_i1 st (fun cn t => rt_i1 t (fun dp t => rt_r1 t (fun b t => rt_i1 t (fun sp t => rt_r1 t (fun a t => rt_ck (rt_isA a 0 && (rt_isA b 0 && Nat.ble (rt_sm t) 8))
          ((¬ sp < 0 ∧ ¬ dp < 0 ∧ ¬ cn < 0 ∧ sp.toNatClampNeg + cn.toNatClampNeg ≤ (rt_lay a).2 ∧ dp.toNatClampNeg + cn.toNatClampNeg ≤ (rt_lay b).2) ∧ k (pc + 3) lv t (rt_uA I b (va_cpy (I a) (I b) sp.toNatClampNeg dp.toNatClampNeg cn.toNatClampNeg)) L r))))))
      | some 1 => rt_i1 st (fun y t => rt_i1 t (fun x t => rt_ck (Nat.ble (rt_sm t) 8) (k (pc + 3) lv (.int (rt_max x y) :: t) I L r)))
      | some 2 => rt_i1 st (fun y t => rt_i1 t (fun x t => rt_ck (Nat.ble (rt_sm t) 8) (k (pc + 3) lv (.int (rt_min x y) :: t) I L r)))
      | some 3 => rt_i1 st (fun x t => rt_ck (Nat.ble (rt_sm t) 8) (k (pc + 3) lv (.int (rt_abs x) :: t) I L r))
      | some _ => False
      | none => rt_fnd z.2.1 x (fun e => rt_popn e.2.1 st [] (fun as t => match e.2.2 with
        | some _ => False
        | none => rt_ck (Nat.ble (rt_sm t) 8) (rt_Call G d e.1 as I L r (fun v I L r => k (pc + 3) lv (rt_pu e.1 v t) I L r)))))
  | .ireturn => rt_ck (Nat.beq n 1) (match st with
    | [.int v] => match ret with
      | some .int => Q v I L r
      | some .boolean => (v = 0 ∨ v = 1) ∧ Q v I L r
      | _ => False
    | _ => False)
  | .return_ => rt_ck (Nat.beq n 1) (match st with
    | [] => match ret with
      | none => Q 0 I L r
      | _ => False
    | _ => False)
  | _ => False
def rt_wp (G : rt_G) (d : Nat) (z : rt_Z) (ret : Option FieldType) (Q : rt_Q) (k : Nat → rt_V → List Value → rt_I → rt_L → Nat → Prop) (is : List (Instr × Nat)) (pc : Nat) (lv : rt_V) (st : List Value) (I : rt_I) (L : rt_L) (r : Nat) : Prop := match is with
  | [] => k pc lv st I L r
  | q :: t => rt_wp1 G d z ret Q q.1 q.2 pc lv st I L r (fun pc' lv' st' I' L' r' => match Nat.beq pc' (pc + q.2) with
    | true => rt_wp G d z ret Q k t pc' lv' st' I' L' r'
    | false => k pc' lv' st' I' L' r')
def rt_dec (cc : ByteArray) (pc : Nat) (is : List (Instr × Nat)) : Prop := match is with
  | [] => True
  | q :: t => decode cc pc = .ok (q.1, q.2) ∧ rt_dec cc (pc + q.2) t
def rt_decB (cc : ByteArray) (pc : Nat) (is : List (Instr × Nat)) : Bool := match is with
  | [] => true
  | q :: t => decide (decode cc pc = .ok (q.1, q.2)) && rt_decB cc (pc + q.2) t
theorem rt_dec_of {cc : ByteArray} : ∀ {is : List (Instr × Nat)} {pc : Nat}, rt_decB cc pc is = true → rt_dec cc pc is
  | [], _, _ => trivial
  | q :: t, pc, h => by
    have h1 := Bool.and_eq_true_iff.mp (show (decide (decode cc pc = .ok (q.1, q.2)) && rt_decB cc (pc + q.2) t) = true from h)
    exact ⟨of_decide_eq_true h1.1, rt_dec_of h1.2⟩
