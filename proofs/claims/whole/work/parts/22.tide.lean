/-! THE TIDE, MOMENTS, the land's small questions -/
theorem cl {x : Int32} {n : Nat} (h : x = nI n) (hn : n < 2 ^ 31) : x.toNatClampNeg = n := by rw [h, nI_clamp hn]
def Fr (M I : rt_I) (cs : List Nat) : Prop := ∀ c, c ∉ cs → M c = I c
theorem Fr.refl (I : rt_I) (cs : List Nat) : Fr I I cs := fun _ _ => rfl
theorem Fr.trans {A B C : rt_I} {cs : List Nat} (h1 : Fr A B cs) (h2 : Fr B C cs) : Fr A C cs := fun c hc => (h1 c hc).trans (h2 c hc)
theorem Fr.u {M I : rt_I} {cs : List Nat} (h : Fr M I cs) {c j : Nat} {v : Int32} (hc : c ∈ cs) : Fr (rt_u M c j v) I cs := fun x hx => by
  rw [rt_u_ne (show x ≠ c from fun e => hx (by rw [e]; exact hc))]
  exact h x hx
theorem Fr.uA {M I : rt_I} {cs : List Nat} (h : Fr M I cs) {c : Nat} {f : Nat → Int32} (hc : c ∈ cs) : Fr (rt_uA M c f) I cs := fun x hx => by
  rw [rt_uA_ne (show x ≠ c from fun e => hx (by rw [e]; exact hc))]
  exact h x hx
theorem Fr.mono {M I : rt_I} {cs ds : List Nat} (h : Fr M I cs) (hs : ∀ c ∈ cs, c ∈ ds) : Fr M I ds := fun c hc => h c (fun z => hc (hs c z))
def hgt (t p h s : Int32) : Int32 := if p < 2 * rt_rem (t + s) p then h * (2 * (p - rt_rem (t + s) p)) / p else h * (2 * rt_rem (t + s) p) / p
def lvl : Nat → (Nat → Int32) → Int32 → Int32
  | 0, _, _ => 0
  | k + 1, td, t => lvl k td t + hgt t (td (k * 3)) (td (k * 3 + 1)) (td (k * 3 + 2))
theorem pos_ne {x : Int32} (h : 0 < x) : ¬ x = 0 := fun e => absurd (e ▸ h) (by decide)
section
variable {G : rt_G} {d : Nat} {Q : rt_Q} {I : rt_I} {L : rt_L} {r n : Nat}
theorem sX8_ofRound {t p h s : Int32} (hp : 0 < p) (hQ : Q (hgt t p h s) I L r) : rt_Call G d kX8_ofRound [.int t, .int p, .int h, .int s] I L r Q := by
  refine v_X8_ofRound _ _ _ _ _ _ _ ⟨fun _ => ⟨pos_ne hp, fun z => ⟨pos_ne hp, ?_⟩, fun z => ⟨pos_ne hp, ?_⟩⟩, fun z => absurd hp z⟩
  · unfold hgt at hQ
    rw [if_pos z] at hQ
    exact hQ
  · unfold hgt at hQ
    rw [if_neg z] at hQ
    exact hQ
def tdok (n : Nat) (td : Nat → Int32) : Prop := ∀ k, k < n → 0 < td (k * 3)
theorem sX8_heightAt {t : Int32} (hn : I 3 2 = nI n) (h3 : n ≤ 3) (hp : tdok n (I 4)) (hQ : Q (lvl n (I 4) t) I L r) : rt_Call G (d + 1) kX8_heightAt [.ref 3, .int t] I L r Q := by
  refine v_X8_heightAt _ _ _ _ (rt_loop (P := fun k => rt_AW G (d + 1) kX8_heightAt Q 4 [some (.ref 3), some (.int t), some (.int (lvl k (I 4) t)), some (.int (nI k))] [] I L r) n ?_ ?_)
  · exact v_X8_heightAt_4 _ _ _ _ _ _ ⟨fun _ => hQ, fun z => absurd (by rw [hn]; exact Int32.le_refl _) z⟩
  · intro k hk ih
    have e0 : nI k * 3 = nI (k * 3) := n_ml k 3
    have e1 : nI k * 3 + 1 = nI (k * 3 + 1) := by rw [e0]; exact n_al _ 1
    have e2 : nI k * 3 + 2 = nI (k * 3 + 2) := by rw [e0]; exact n_al _ 2
    refine v_X8_heightAt_4 _ _ _ _ _ _ ⟨fun z => absurd ((n_le hn rfl (by omega) (by omega)).mp z) (by omega), fun _ => ⟨vp_nI e0 (by omega) (by omega), vp_nI e1 (by omega) (by omega), vp_nI e2 (by omega) (by omega), ?_⟩⟩
    rw [cl e0 (by omega), cl e1 (by omega), cl e2 (by omega)]
    refine sX8_ofRound (hp k hk) ?_
    rw [nI_1]
    exact ih
def agi : Nat → (Nat → Int32) → Int32 → Prop := fun n td x => ∀ k, k < n → rt_rem x (td (k * 3)) = 0
theorem sX8_allGoInto {x : Int32} (hn : I 3 2 = nI n) (h3 : n ≤ 3) (hp : tdok n (I 4)) (h1 : agi n (I 4) x → Q 1 I L r) (h0 : ¬ agi n (I 4) x → Q 0 I L r) : rt_Call G d kX8_allGoInto [.ref 3, .int x] I L r Q := by
  refine v_X8_allGoInto _ _ _ _ (rt_loop (P := fun k => (∀ j, j < k → rt_rem x (I 4 (j * 3)) = 0) → rt_AW G d kX8_allGoInto Q 2 [some (.ref 3), some (.int x), some (.int (nI k)), none] [] I L r) n ?_ ?_ (fun j hj => absurd hj (by omega)))
  · intro hb
    exact v_X8_allGoInto_2 _ _ _ _ _ ⟨fun _ => h1 hb, fun z => absurd (by rw [hn]; exact Int32.le_refl _) z⟩
  · intro k hk ih hb
    have e0 : nI k * 3 = nI (k * 3) := n_ml k 3
    have hpk : 0 < I 4 (k * 3) := hp k hk
    refine v_X8_allGoInto_2 _ _ _ _ _ ⟨fun z => absurd ((n_le hn rfl (by omega) (by omega)).mp z) (by omega), fun _ => ⟨vp_nI e0 (by omega) (by omega), ?_⟩⟩
    rw [cl e0 (by omega)]
    refine ⟨fun z => absurd hpk (Int32.not_lt.mpr z), fun _ => ⟨pos_ne hpk, fun z => ?_, fun z => h0 (fun q => z (q k hk))⟩⟩
    rw [nI_1]
    exact ih (lt_s hb z)
/-! moments: always the present one -/
theorem sX4_of {c j : Nat} {x y : Int32} (hx : x = nI c) (hy : y = nI j) (hj : c * 8 + j < 40) (hQ : Q (I 17 (c * 8 + j)) I L r) : rt_Call G d kX4_of [.ref 16, .int x, .int y] I L r Q := by
  have e : x * 8 + y = nI (c * 8 + j) := by rw [hx, hy, show nI c * 8 = nI (c * 8) from n_ml c 8, nI_add]
  refine v_X4_of _ _ _ _ _ ⟨vp_nI e hj (by omega), ?_⟩
  rw [cl e (by omega)]
  exact hQ
theorem sX4_put {c j : Nat} {x y v : Int32} (hx : x = nI c) (hy : y = nI j) (hj : c * 8 + j < 40) (hQ : Q 0 (rt_u I 17 (c * 8 + j) v) L r) : rt_Call G d kX4_put [.ref 16, .int x, .int y, .int v] I L r Q := by
  have e : x * 8 + y = nI (c * 8 + j) := by rw [hx, hy, show nI c * 8 = nI (c * 8) from n_ml c 8, nI_add]
  refine v_X4_put _ _ _ _ _ _ ⟨vp_nI e hj (by omega), ?_⟩
  rw [cl e (by omega)]
  exact hQ
theorem sX4_putAtPlace {c : Nat} {x v : Int32} (hx : x = nI c) (hc : c < 5) (hQ : Q 0 (rt_u (rt_u (rt_u (rt_u (rt_u I 17 (c * 8) v) 17 (c * 8 + 1) (-1)) 17 (c * 8 + 2) (-1)) 17 (c * 8 + 3) 0) 17 (c * 8 + 6) 0) L r) : rt_Call G (d + 1) kX4_putAtPlace [.ref 16, .int x, .int v] I L r Q :=
  v_X4_putAtPlace _ _ _ _ _ (sX4_put (j := 0) hx rfl (by omega) (sX4_put (j := 1) hx rfl (by omega) (sX4_put (j := 2) hx rfl (by omega) (sX4_put (j := 3) hx rfl (by omega) (sX4_put (j := 6) hx rfl (by omega) hQ)))))
theorem sX4_putOnRoad {c : Nat} {x w to lf : Int32} (hx : x = nI c) (hc : c < 5) (hQ : Q 0 (rt_u (rt_u (rt_u (rt_u I 17 (c * 8) (-1)) 17 (c * 8 + 1) w) 17 (c * 8 + 2) to) 17 (c * 8 + 3) lf) L r) : rt_Call G (d + 1) kX4_putOnRoad [.ref 16, .int x, .int w, .int to, .int lf] I L r Q :=
  v_X4_putOnRoad _ _ _ _ _ _ _ (sX4_put (j := 0) hx rfl (by omega) (sX4_put (j := 1) hx rfl (by omega) (sX4_put (j := 2) hx rfl (by omega) (sX4_put (j := 3) hx rfl (by omega) hQ))))
/-- bits of those below n for which b holds -/
def bts (b : Nat → Bool) : Nat → Int32
  | 0 => 0
  | k + 1 => if b k = true then bts b k ||| (1 <<< (nI k &&& 31)) else bts b k
theorem bts_congr {b b' : Nat → Bool} {n : Nat} (h : ∀ k, k < n → b k = b' k) : bts b n = bts b' n := by
  induction n with
  | zero => rfl
  | succ n ih =>
    unfold bts
    rw [h n (by omega), ih (fun k hk => h k (by omega))]
theorem sX4_cartsWith {j : Nat} {v : Int32} (hn : I 16 1 = nI n) (h5 : n ≤ 5) (hj : j < 8) (hQ : Q (bts (fun c => decide (I 17 (c * 8 + j) = v)) n) I L r) : rt_Call G (d + 1) kX4_cartsWith [.ref 16, .int (nI j), .int v] I L r Q := by
  refine v_X4_cartsWith _ _ _ _ _ (rt_loop (P := fun k => rt_AW G (d + 1) kX4_cartsWith Q 5 [some (.ref 16), some (.int (nI j)), some (.int v), some (.int (bts (fun c => decide (I 17 (c * 8 + j) = v)) k)), some (.int (nI k))] [] I L r) n ?_ ?_)
  · exact v_X4_cartsWith_5 _ _ _ _ _ _ _ ⟨fun _ => hQ, fun z => absurd (by rw [hn]; exact Int32.le_refl _) z⟩
  · intro k hk ih
    refine v_X4_cartsWith_5 _ _ _ _ _ _ _ ⟨fun z => absurd ((n_le hn rfl (by omega) (by omega)).mp z) (by omega), fun _ => sX4_of rfl rfl (by omega) ⟨fun z => ?_, fun z => ?_⟩⟩
    · rw [nI_1]
      unfold bts at ih
      rw [if_neg (by simpa using z)] at ih
      exact ih
    · rw [nI_1]
      unfold bts at ih
      rw [if_pos (by simpa using z)] at ih
      exact ih
theorem sX4_cartsCut (hn : I 16 1 = nI n) (h5 : n ≤ 5) (hQ : Q (bts (fun c => decide (0 < I 17 (c * 8 + 6))) n) I L r) : rt_Call G (d + 1) kX4_cartsCut [.ref 16] I L r Q := by
  refine v_X4_cartsCut _ _ _ (rt_loop (P := fun k => rt_AW G (d + 1) kX4_cartsCut Q 4 [some (.ref 16), some (.int (bts (fun c => decide (0 < I 17 (c * 8 + 6))) k)), some (.int (nI k))] [] I L r) n ?_ ?_)
  · exact v_X4_cartsCut_4 _ _ _ _ _ ⟨fun _ => hQ, fun z => absurd (by rw [hn]; exact Int32.le_refl _) z⟩
  · intro k hk ih
    refine v_X4_cartsCut_4 _ _ _ _ _ ⟨fun z => absurd ((n_le hn rfl (by omega) (by omega)).mp z) (by omega), fun _ => sX4_of (j := 6) rfl rfl (by omega) ⟨fun z => ?_, fun z => ?_⟩⟩
    · rw [nI_1]
      unfold bts at ih
      rw [if_neg (by simpa using z)] at ih
      exact ih
    · rw [nI_1]
      unfold bts at ih
      rw [if_pos (by simpa using z)] at ih
      exact ih
/-- the other end of a road -/
def fend (a b p : Int32) : Int32 := if a = p then b else if b = p then a else -1
theorem sX4_farEnd {w : Nat} {x p : Int32} (hx : x = nI w) (hw : w < 12) (hQ : Q (fend (I 18 w) (I 19 w) p) I L r) : rt_Call G d kX4_farEnd [.ref 16, .int x, .int p] I L r Q := by
  have hv : vp_in x 12 := vp_nI hx hw (by omega)
  refine v_X4_farEnd _ _ _ _ _ ?_
  rw [cl hx (by omega)]
  unfold fend at hQ
  refine ⟨hv, fun z => ⟨hv, fun z2 => ?_, fun z2 => ⟨hv, ?_⟩⟩, fun z => ⟨hv, ?_⟩⟩
  · rw [if_neg z, if_neg z2] at hQ
    exact hQ
  · rw [if_neg z, if_pos z2] at hQ
    exact hQ
  · rw [if_pos z] at hQ
    exact hQ
/-! the land -/
def inr (x : Int32) (n : Nat) : Prop := ¬ x < 0 ∧ x < nI n
theorem inr_iff {x : Int32} {n : Nat} (hn : n < 1000) : inr x n ↔ ∃ k, k < n ∧ x = nI k := by
  constructor
  · rintro ⟨h1, h2⟩
    obtain ⟨k, hk, rfl⟩ := nI_of h1
    exact ⟨k, (nI_ltI hk (by omega)).mp h2, rfl⟩
  · rintro ⟨k, hk, rfl⟩
    exact ⟨n_neg (by omega), nI_lt hk (by omega)⟩
theorem sX2_hasPlace {x : Int32} (hn : I 12 1 = nI n) (h1 : inr x n → Q 1 I L r) (h0 : ¬ inr x n → Q 0 I L r) : rt_Call G d kX2_hasPlace [.ref 12, .int x] I L r Q :=
  v_X2_hasPlace _ _ _ _ ⟨fun z => h0 (fun q => q.1 z), fun z => ⟨fun z2 => h0 (fun q => absurd q.2 (Int32.not_lt.mpr (hn ▸ z2))), fun z2 => h1 ⟨z, Int32.not_le.mp (hn ▸ z2)⟩⟩⟩
theorem sX2_hasRoad {x : Int32} (hn : I 12 2 = nI n) (h1 : inr x n → Q 1 I L r) (h0 : ¬ inr x n → Q 0 I L r) : rt_Call G d kX2_hasRoad [.ref 12, .int x] I L r Q :=
  v_X2_hasRoad _ _ _ _ ⟨fun z => h0 (fun q => q.1 z), fun z => ⟨fun z2 => h0 (fun q => absurd q.2 (Int32.not_lt.mpr (hn ▸ z2))), fun z2 => h1 ⟨z, Int32.not_le.mp (hn ▸ z2)⟩⟩⟩
theorem sX2_hasCart {x : Int32} (hn : I 16 1 = nI n) (h1 : inr x n → Q 1 I L r) (h0 : ¬ inr x n → Q 0 I L r) : rt_Call G d kX2_hasCart [.ref 12, .int x] I L r Q :=
  v_X2_hasCart _ _ _ _ ⟨fun z => h0 (fun q => q.1 z), fun z => ⟨fun z2 => h0 (fun q => absurd q.2 (Int32.not_lt.mpr (hn ▸ z2))), fun z2 => h1 ⟨z, Int32.not_le.mp (hn ▸ z2)⟩⟩⟩
theorem sX2_allPlaces (hQ : Q ((1 <<< (I 12 1 &&& 31)) - 1) I L r) : rt_Call G d kX2_allPlaces [.ref 12] I L r Q := v_X2_allPlaces _ _ _ hQ
theorem sX2_roadsAt {p : Int32} (hn : I 12 2 = nI n) (h5 : n ≤ 12) (hQ : Q (bts (fun w => decide (¬ fend (I 18 w) (I 19 w) p = -1)) n) I L r) : rt_Call G (d + 1) kX2_roadsAt [.ref 12, .int p] I L r Q := by
  refine v_X2_roadsAt _ _ _ _ (rt_loop (P := fun k => rt_AW G (d + 1) kX2_roadsAt Q 4 [some (.ref 12), some (.int p), some (.int (bts (fun w => decide (¬ fend (I 18 w) (I 19 w) p = -1)) k)), some (.int (nI k))] [] I L r) n ?_ ?_)
  · exact v_X2_roadsAt_4 _ _ _ _ _ _ ⟨fun _ => hQ, fun z => absurd (by rw [hn]; exact Int32.le_refl _) z⟩
  · intro k hk ih
    refine v_X2_roadsAt_4 _ _ _ _ _ _ ⟨fun z => absurd ((n_le hn rfl (by omega) (by omega)).mp z) (by omega), fun _ => sX4_farEnd rfl (by omega) ⟨fun z => ?_, fun z => ?_⟩⟩
    · rw [nI_1]
      unfold bts at ih
      rw [if_neg (by simpa using z)] at ih
      exact ih
    · rw [nI_1]
      unfold bts at ih
      rw [if_pos (by simpa using z)] at ih
      exact ih
/-! whether roads are there -/
def thr (n : Nat) (td rh : Nat → Int32) (w : Nat) (t : Int32) : Bool := decide (¬ lvl n td t < rh w)
theorem sX9_isThere {w : Nat} {x t : Int32} (hx : x = nI w) (hw : w < 12) (hn : I 3 2 = nI n) (h3 : n ≤ 3) (hp : tdok n (I 4)) (h1 : thr n (I 4) (I 15) w t = true → Q 1 I L r) (h0 : thr n (I 4) (I 15) w t = false → Q 0 I L r) : rt_Call G (d + 2) kX9_isThere [.ref 20, .int x, .int t] I L r Q := by
  refine v_X9_isThere _ _ _ _ _ (sX8_heightAt hn h3 hp ⟨vp_nI hx hw (by omega), ?_⟩)
  rw [cl hx (by omega)]
  exact ⟨fun z => h0 (by simp [thr, z]), fun z => h1 (by simp [thr]; exact Int32.not_lt.mp z)⟩
theorem sX9_roadsThereAt {m : Nat} {t : Int32} (hm : I 12 2 = nI m) (h12 : m ≤ 12) (hn : I 3 2 = nI n) (h3 : n ≤ 3) (hp : tdok n (I 4)) (hQ : Q (bts (fun w => thr n (I 4) (I 15) w t) m) I L r) : rt_Call G (d + 2) kX9_roadsThereAt [.ref 20, .int t] I L r Q := by
  refine v_X9_roadsThereAt _ _ _ _ (sX8_heightAt hn h3 hp (rt_loop (P := fun k => rt_AW G (d + 2) kX9_roadsThereAt Q 14 [some (.ref 20), none, some (.int (lvl n (I 4) t)), some (.int (bts (fun w => thr n (I 4) (I 15) w t) k)), some (.int (nI k))] [] I L r) m ?_ ?_))
  · exact v_X9_roadsThereAt_14 _ _ _ _ _ _ ⟨fun _ => hQ, fun z => absurd (by rw [hm]; exact Int32.le_refl _) z⟩
  · intro k hk ih
    refine v_X9_roadsThereAt_14 _ _ _ _ _ _ ⟨fun z => absurd ((n_le hm rfl (by omega) (by omega)).mp z) (by omega), fun _ => ⟨vp_nI rfl (by omega) (by omega), ?_⟩⟩
    rw [cl rfl (by omega), nI_1]
    unfold bts at ih
    refine ⟨fun z => ?_, fun z => ?_⟩
    · rw [if_neg (by simp [thr, z])] at ih
      exact ih
    · rw [if_pos (by simp [thr]; exact Int32.not_lt.mp z)] at ih
      exact ih
end
