/-! THE STATE, as numbers: what is told (SV), a moment (m); both sides hold it -/
def SV : Type := (Nat × Nat × Nat × Nat) × (Nat → Int32) × (Nat → Int32) × (Nat → Int32) × (Nat → Int32) × RVT × Int32
def mkS (np nr nc nd : Nat) (td ph st rh : Nat → Int32) (RV : RVT) (pat : Int32) : SV := ((np, nr, nc, nd), td, ph, st, rh, RV, pat)
def SV.np (s : SV) : Nat := s.1.1
def SV.nr (s : SV) : Nat := s.1.2.1
def SV.nc (s : SV) : Nat := s.1.2.2.1
def SV.nd (s : SV) : Nat := s.1.2.2.2
def SV.td (s : SV) : Nat → Int32 := s.2.1
def SV.ph (s : SV) : Nat → Int32 := s.2.2.1
def SV.st (s : SV) : Nat → Int32 := s.2.2.2.1
def SV.rh (s : SV) : Nat → Int32 := s.2.2.2.2.1
def SV.RV (s : SV) : RVT := s.2.2.2.2.2.1
def SV.pat (s : SV) : Int32 := s.2.2.2.2.2.2
def AG (n : Nat) (f g : Nat → Int32) : Prop := ∀ j, j < n → f j = g j
theorem AG.refl (n : Nat) (f : Nat → Int32) : AG n f f := fun _ _ => rfl
theorem AG.up {n k : Nat} {f g : Nat → Int32} {v : Int32} (h : AG n f g) : AG n (upd f k v) (upd g k v) := fun j hj => by
  unfold upd
  split
  · rfl
  · exact h j hj
theorem AG.upL {n k : Nat} {f g : Nat → Int32} {v : Int32} (h : AG n f g) (hv : g k = v) : AG n (upd f k v) g := fun j hj => by
  unfold upd
  split
  · rename_i e; rw [e, hv]
  · exact h j hj
theorem AG.upO {n k : Nat} {f g : Nat → Int32} {v : Int32} (h : AG n f g) (hv : n ≤ k) : AG n (upd f k v) g := fun j hj => by
  unfold upd
  split
  · omega
  · exact h j hj
theorem AG.trans {n : Nat} {f g k : Nat → Int32} (h : AG n f g) (h2 : AG n g k) : AG n f k := fun j hj => (h j hj).trans (h2 j hj)
theorem AG.symm {n : Nat} {f g : Nat → Int32} (h : AG n f g) : AG n g f := fun j hj => (h j hj).symm
def XZ (s : SV) (I : rt_I) : Prop := I 12 1 = nI s.np ∧ I 12 2 = nI s.nr ∧ I 16 1 = nI s.nc ∧ I 3 2 = nI s.nd ∧ AG (3 * s.nd) (I 4) s.td ∧ AG s.np (I 13) s.ph ∧ AG s.nr (I 14) s.st ∧ AG s.nr (I 15) s.rh ∧ XRule I s.RV ∧ I 20 4 = s.pat
def MZ (s : SV) (I : rt_I) : Prop := I 108 1 = nI s.np ∧ I 108 3 = nI s.nr ∧ I 108 6 = nI s.nc ∧ I 108 7 = nI s.nd ∧ AG (3 * s.nd) (I 113) s.td ∧ AG s.np (I 110) s.ph ∧ AG s.nr (I 111) s.st ∧ AG s.nr (I 112) s.rh ∧ MRule I s.RV ∧ I 108 9 = s.pat ∧ I 108 28 = 0
/-- a moment of the class at object o -/
def XMo (s : SV) (m : Nat → Int32) (I : rt_I) (o : Nat) : Prop := I o 0 = m 64 ∧ AG (8 * s.nc) (I (o + 1)) m ∧ (∀ w, w < s.nr → I (o + 2) w = m (40 + 2 * w)) ∧ (∀ w, w < s.nr → I (o + 3) w = m (41 + 2 * w))
/-- a moment of the model -/
def MMo (s : SV) (m f : Nat → Int32) : Prop := f 64 = m 64 ∧ AG (8 * s.nc) f m ∧ (∀ w, w < s.nr → f (40 + 2 * w) = m (40 + 2 * w)) ∧ (∀ w, w < s.nr → f (41 + 2 * w) = m (41 + 2 * w))
def tdk (td : Nat → Int32) (k : Nat) : Prop := ∃ p h o : Nat, 2 ≤ p ∧ p ≤ 60 ∧ h ≤ 60 ∧ o ≤ 59 ∧ td (k * 3) = nI p ∧ td (k * 3 + 1) = nI h ∧ td (k * 3 + 2) = nI o
def sok (s : SV) : Prop := s.np ≤ 8 ∧ s.nr ≤ 12 ∧ s.nc ≤ 5 ∧ 1 ≤ s.nd ∧ s.nd ≤ 3 ∧ (∀ k, k < s.nd → tdk s.td k) ∧ ∃ p, 1 ≤ p ∧ p ≤ 20 ∧ s.pat = nI p
def eok (s : SV) (m : Nat → Int32) (w : Nat) : Prop := ∃ a b, a < s.np ∧ b < s.np ∧ a ≠ b ∧ m (40 + 2 * w) = nI a ∧ m (41 + 2 * w) = nI b
def cok (s : SV) (t : Nat) (m : Nat → Int32) (c : Nat) : Prop := ((m (c * 8 + 5) = 0 ∨ m (c * 8 + 5) = 1) ∧ ∃ l, l ≤ 9 ∧ m (c * 8 + 4) = nI l) ∧
  ((∃ p, p < s.np ∧ m (c * 8) = nI p ∧ m (c * 8 + 1) = -1 ∧ m (c * 8 + 2) = -1 ∧ m (c * 8 + 3) = 0 ∧ m (c * 8 + 6) = 0 ∧ m (c * 8 + 7) = 0) ∨
   (m (c * 8) = -1 ∧ (∃ w, w < s.nr ∧ m (c * 8 + 1) = nI w ∧ (m (c * 8 + 2) = m (40 + 2 * w) ∨ m (c * 8 + 2) = m (41 + 2 * w))) ∧ (∃ l, 1 ≤ l ∧ l ≤ 20 ∧ m (c * 8 + 3) = nI l) ∧ (∃ k, k ≤ t ∧ m (c * 8 + 6) = nI k) ∧ (m (c * 8 + 7) = 0 ∨ m (c * 8 + 7) = 1)))
def mok (s : SV) (B : Nat) (m : Nat → Int32) : Prop := (∃ t, t ≤ B ∧ m 64 = nI t ∧ ∀ c, c < s.nc → cok s t m c) ∧ ∀ w, w < s.nr → eok s m w
theorem cok.congr {s : SV} {t t' c : Nat} {m m' : Nat → Int32} (h : cok s t m c) (ht : t ≤ t') (h1 : ∀ j, j < 8 → m' (c * 8 + j) = m (c * 8 + j))
    (h2 : ∀ w, w < s.nr → m (c * 8 + 1) = nI w → m' (40 + 2 * w) = m (40 + 2 * w) ∧ m' (41 + 2 * w) = m (41 + 2 * w)) : cok s t' m' c := by
  have e0 : m' (c * 8) = m (c * 8) := h1 0 (by omega)
  obtain ⟨a, b⟩ := h
  unfold cok
  rw [e0, h1 1 (by omega), h1 2 (by omega), h1 3 (by omega), h1 4 (by omega), h1 5 (by omega), h1 6 (by omega), h1 7 (by omega)]
  refine ⟨a, b.imp id ?_⟩
  rintro ⟨b1, ⟨w, hw, b2, b3⟩, b4, ⟨k, hk, b5⟩, b6⟩
  obtain ⟨c1, c2⟩ := h2 w hw b2
  exact ⟨b1, ⟨w, hw, b2, by rw [c1, c2]; exact b3⟩, b4, ⟨k, by omega, b5⟩, b6⟩
theorem eok.congr {s : SV} {w : Nat} {m m' : Nat → Int32} (h : eok s m w) (h2 : m' (40 + 2 * w) = m (40 + 2 * w) ∧ m' (41 + 2 * w) = m (41 + 2 * w)) : eok s m' w := by
  unfold eok
  rw [h2.1, h2.2]
  exact h
theorem mok.mono {s : SV} {B B' : Nat} {m : Nat → Int32} (h : mok s B m) (hB : B ≤ B') : mok s B' m := by
  obtain ⟨⟨t, h1, h2⟩, h3⟩ := h
  exact ⟨⟨t, by omega, h2⟩, h3⟩
theorem vpT {n N : Nat} (h : n < N) (hN : N < 2 ^ 31) : vp_in (nI n) N = True := eq_true (vp_in_nI h hN)
theorem clT {n : Nat} (h : n < 2 ^ 31) : (nI n).toNatClampNeg = n := nI_clamp h
theorem rt_u1 {I : rt_I} {c j j' : Nat} {v : Int32} (h : j' ≠ j) : rt_u I c j v c j' = I c j' := rt_u_n (Or.inr h)
theorem rt_u2 {I : rt_I} {c c' j j' : Nat} {v : Int32} (h : c' ≠ c) : rt_u I c j v c' j' = I c' j' := rt_u_n (Or.inl h)
theorem upd1 {f : Nat → Int32} {k j : Nat} {x : Int32} (h : j ≠ k) : upd f k x j = f j := pk_un h
theorem upd0 {f : Nat → Int32} {k : Nat} {x : Int32} : upd f k x k = x := pk_us
theorem n8 (c : Nat) : (8 : Int32) * nI c = nI (c * 8) := by rw [Nat.mul_comm]; exact n_lm 8 c
theorem n8' (c : Nat) : nI c * (8 : Int32) = nI (c * 8) := n_ml c 8
theorem XZ.fr {s : SV} {M I : rt_I} (h : XZ s I) (h12 : M 12 1 = I 12 1 ∧ M 12 2 = I 12 2) (h16 : M 16 1 = I 16 1) (h3 : M 3 2 = I 3 2) (h4 : M 4 = I 4) (h13 : M 13 = I 13) (h14 : M 14 = I 14) (h15 : M 15 = I 15) (h6 : M 6 1 = I 6 1) (h7 : M 7 = I 7) (h20 : M 20 4 = I 20 4) : XZ s M := by
  obtain ⟨a1, a2, a3, a4, a5, a6, a7, a8, a9, a10⟩ := h
  exact ⟨h12.1.trans a1, h12.2.trans a2, h16.trans a3, h3.trans a4, h4 ▸ a5, h13 ▸ a6, h14 ▸ a7, h15 ▸ a8, a9.fr h6 h7, h20.trans a10⟩
/-- what a question of the class may change -/
def qX : List Nat := [10, 11, 29, 30, 31, 32, 33, 34, 35, 36, 37, 38, 41, 42, 43]
theorem XZ.frq {s : SV} {M I : rt_I} {cs : List Nat} (h : XZ s I) (hf : Fr M I cs) (hs : 3 ∉ cs ∧ 4 ∉ cs ∧ 6 ∉ cs ∧ 7 ∉ cs ∧ 12 ∉ cs ∧ 13 ∉ cs ∧ 14 ∉ cs ∧ 15 ∉ cs ∧ 16 ∉ cs ∧ 20 ∉ cs) : XZ s M := by
  obtain ⟨b1, b2, b3, b4, b5, b6, b7, b8, b9, b10⟩ := hs
  exact h.fr ⟨by rw [hf _ b5], by rw [hf _ b5]⟩ (by rw [hf _ b9]) (by rw [hf _ b1]) (hf _ b2) (hf _ b6) (hf _ b7) (hf _ b8) (by rw [hf _ b3]) (hf _ b4) (by rw [hf _ b10])
theorem XMo.fr {s : SV} {m : Nat → Int32} {M I : rt_I} {o : Nat} (h : XMo s m I o) (h0 : M o 0 = I o 0) (h1 : M (o + 1) = I (o + 1)) (h2 : M (o + 2) = I (o + 2)) (h3 : M (o + 3) = I (o + 3)) : XMo s m M o := by
  obtain ⟨a1, a2, a3, a4⟩ := h
  exact ⟨h0.trans a1, h1 ▸ a2, h2 ▸ a3, h3 ▸ a4⟩
theorem MZ.fr {s : SV} {M I : rt_I} (h : MZ s I) (h8 : ∀ j, j ∈ [1, 3, 6, 7, 9, 27] → M 108 j = I 108 j) (h28 : M 108 28 = 0) (h0 : M 110 = I 110) (h1 : M 111 = I 111) (h2 : M 112 = I 112) (h3 : M 113 = I 113) (h20 : M 120 = I 120) : MZ s M := by
  obtain ⟨a1, a2, a3, a4, a5, a6, a7, a8, a9, a10, a11⟩ := h
  exact ⟨(h8 1 (by decide)).trans a1, (h8 3 (by decide)).trans a2, (h8 6 (by decide)).trans a3, (h8 7 (by decide)).trans a4, h3 ▸ a5, h0 ▸ a6, h1 ▸ a7, h2 ▸ a8, a9.fr (h8 27 (by decide)) h20, (h8 9 (by decide)).trans a10, h28⟩
/-- fields of the model that no question changes -/
def mK : List Nat := [1, 3, 6, 7, 9, 11, 27, 31, 48, 52]
/-- the model's fields that may change -/
theorem lvl_congr {n : Nat} {td td' : Nat → Int32} (t : Int32) (h : AG (3 * n) td td') : lvl n td t = lvl n td' t := by
  induction n with
  | zero => rfl
  | succ n ih =>
    unfold lvl
    rw [ih (fun j hj => h j (by omega)), h (n * 3) (by omega), h (n * 3 + 1) (by omega), h (n * 3 + 2) (by omega)]
theorem thr_congr {n w nr : Nat} {td td' rh rh' : Nat → Int32} (t : Int32) (h : AG (3 * n) td td') (h2 : AG nr rh rh') (hw : w < nr) : thr n td rh w t = thr n td' rh' w t := by
  unfold thr
  rw [lvl_congr t h, h2 w hw]
theorem tk_congr {RV : RVT} {ph ph' st st' rh rh' : Nat → Int32} {np nr w p q : Nat} {l : Int32} (h1 : AG np ph ph') (h2 : AG nr st st') (h3 : AG nr rh rh') (hw : w < nr) (hp : p < np) (hq : q < np) : tk RV ph st rh w p q l = tk RV ph' st' rh' w p q l := by
  unfold tk
  rw [h1 p hp, h1 q hq, h2 w hw, h3 w hw]
def SV.lv (s : SV) (t : Int32) : Int32 := lvl s.nd s.td t
def SV.th (s : SV) (w : Nat) (t : Int32) : Bool := thr s.nd s.td s.rh w t
def SV.tkn (s : SV) (w p q : Nat) (l : Int32) : Int32 := tk s.RV s.ph s.st s.rh w p q l
theorem tdok_of {n : Nat} {td td' : Nat → Int32} (h : ∀ k, k < n → tdk td k) (h2 : AG (3 * n) td' td) : tdok n td' := fun k hk => by
  obtain ⟨p, h', o, a1, a2, a3, a4, a5, a6, a7⟩ := h k hk
  rw [h2 (k * 3) (by omega), a5]
  exact (n_lt (a := 0) (b := p) rfl rfl (by omega) (by omega)).mpr (by omega)
section
variable {G : rt_G} {d : Nat} {Q : rt_Q} {I : rt_I} {L : rt_L} {r : Nat} {s : SV} {m : Nat → Int32}
theorem wX8_heightAt {t : Int32} (hS : XZ s I) (hk : sok s) (hQ : Q (s.lv t) I L r) : rt_Call G (d + 1) kX8_heightAt [.ref 3, .int t] I L r Q := by
  obtain ⟨b1, b2, b3, b4, b5, b6, b7⟩ := hk
  refine sX8_heightAt hS.2.2.2.1 b5 (tdok_of b6 hS.2.2.2.2.1) ?_
  rw [lvl_congr t hS.2.2.2.2.1]
  exact hQ
theorem wX9_isThere {w : Nat} {x t : Int32} (hS : XZ s I) (hk : sok s) (hx : x = nI w) (hw : w < s.nr) (h1 : s.th w t = true → Q 1 I L r) (h0 : s.th w t = false → Q 0 I L r) : rt_Call G (d + 2) kX9_isThere [.ref 20, .int x, .int t] I L r Q := by
  obtain ⟨b1, b2, b3, b4, b5, b6, b7⟩ := hk
  have e := thr_congr t hS.2.2.2.2.1 hS.2.2.2.2.2.2.2.1 hw
  refine sX9_isThere hx (by omega) hS.2.2.2.1 b5 (tdok_of b6 hS.2.2.2.2.1) (fun z => h1 ?_) (fun z => h0 ?_)
  · rw [e] at z; exact z
  · rw [e] at z; exact z
theorem wX9_turnsBy {w p q : Nat} {x1 x2 x3 l : Int32} (hS : XZ s I) (hk : sok s) (h1 : x1 = nI w) (hw : w < s.nr) (h2 : x2 = nI p) (hp : p < s.np) (h3 : x3 = nI q) (hq : q < s.np) (hQ : ∀ M, Fr M I [10, 11] → Q (s.tkn w p q l) M L r) : rt_Call G (d + 3) kX9_turnsBy [.ref 20, .int x1, .int x2, .int x3, .int l] I L r Q := by
  obtain ⟨b1, b2, b3, b4, b5, b6, b7⟩ := hk
  obtain ⟨a1, a2, a3, a4, a5, a6, a7, a8, a9, a10⟩ := hS
  refine sX9_turnsBy a9 h1 (by omega) h2 (by omega) h3 (by omega) (fun M hM => ?_)
  rw [tk_congr a6 a7 a8 hw hp hq]
  exact hQ M hM
theorem wX12_levelAt {t : Int32} (hS : MZ s I) (hk : sok s) (hQ : Q (s.lv t) I L r) : rt_Call G (d + 1) kX12_levelAt [.ref 108, .int t] I L r Q := by
  obtain ⟨b1, b2, b3, b4, b5, b6, b7⟩ := hk
  refine sX12_levelAt hS.2.2.2.1 b5 (tdok_of b6 hS.2.2.2.2.1) ?_
  rw [lvl_congr t hS.2.2.2.2.1]
  exact hQ
theorem wX12_isThere {w : Nat} {x t : Int32} (hS : MZ s I) (hk : sok s) (hx : x = nI w) (hw : w < s.nr) (h1 : s.th w t = true → Q 1 I L r) (h0 : s.th w t = false → Q 0 I L r) : rt_Call G (d + 2) kX12_isThere [.ref 108, .int x, .int t] I L r Q := by
  obtain ⟨b1, b2, b3, b4, b5, b6, b7⟩ := hk
  have e := thr_congr t hS.2.2.2.2.1 hS.2.2.2.2.2.2.2.1 hw
  refine sX12_isThere hx (by omega) hS.2.2.2.1 b5 (tdok_of b6 hS.2.2.2.2.1) (fun z => h1 ?_) (fun z => h0 ?_)
  · rw [e] at z; exact z
  · rw [e] at z; exact z
/-- what turnsOf changes -/
def TQ (M I : rt_I) : Prop := Fr M I [108, 121] ∧ F8 M I [16, 17, 18, 19, 28] ∧ M 108 28 = 0
theorem TQ.trans {A B C : rt_I} (h1 : TQ A B) (h2 : TQ B C) : TQ A C := ⟨h1.1.trans h2.1, h1.2.1.trans h2.2.1, h1.2.2⟩
theorem TQ.S {M I : rt_I} (h : TQ M I) (hS : MZ s I) : MZ s M := hS.fr (fun j hj => h.2.1 j (by
  simp only [List.mem_cons, List.not_mem_nil, or_false] at hj ⊢
  omega)) h.2.2 (h.1 110 (by decide)) (h.1 111 (by decide)) (h.1 112 (by decide)) (h.1 113 (by decide)) (h.1 120 (by decide))
theorem wX12_turnsOf {w p q : Nat} {x1 x2 x3 ll : Int32} (hS : MZ s I) (hk : sok s) (h1 : x1 = nI w) (hw : w < s.nr) (h2 : x2 = nI p) (hp : p < s.np) (h3 : x3 = nI q) (hq : q < s.np)
    (hQ : ∀ M r', TQ M I → Q (s.tkn w p q ll) M L r') : rt_Call G (d + 131) kX12_turnsOf [.ref 108, .int x1, .int x2, .int x3, .int ll] I L r Q := by
  obtain ⟨b1, b2, b3, b4, b5, b6, b7⟩ := hk
  obtain ⟨a1, a2, a3, a4, a5, a6, a7, a8, a9, a10, a11⟩ := hS
  refine sX12_turnsOf a9 h1 (by omega) h2 (by omega) h3 (by omega) a11 (fun M r' hM h8 h28 _ => ?_)
  rw [tk_congr a6 a7 a8 hw hp hq]
  exact hQ M r' ⟨hM, h8, h28⟩
end
