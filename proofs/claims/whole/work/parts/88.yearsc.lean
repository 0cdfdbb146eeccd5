/-! THE FACE: years, class -/
theorem yrs_ok {s : SV} {m : MO} {B : Nat} {x : Int32} (hk : sok s) (hm : mok s B m) (i : Nat) : mok s (B + 12 * i) (yrs s i (m, x, 0, 0)).1 := by
  induction i with
  | zero => exact hm
  | succ i ih =>
    rw [yrs_s]
    exact (yr1_ok hk ih).mono (by omega)
theorem yrs_7 {s : SV} {m : MO} {x : Int32} {c : Nat} (hk : sok s) (hc : c < s.nc) (h : m (c * 8 + 7) = 1) (i : Nat) : (yrs s i (m, x, 0, 0)).1 (c * 8 + 7) = 1 := by
  induction i with
  | zero => exact h
  | succ i ih =>
    rw [yrs_s]
    exact yr1_7 hk hc ih
section
variable {G : rt_G} {d : Nat} {Q : rt_Q} {I : rt_I} {L : rt_L} {r B mg : Nat} {s : SV} {m : MO} {us : List MO} {kp : Nat → Option MO} {mk : MKT} {row : List Int32} {tx : TXT}
theorem sX9_draw {x v : Int32} {k : Nat} (hx : x = nI k) (h0 : 0 < k) (hk : k < 1000) (hv : I 20 11 = v) (hQ : Q (nI (dv (nd v) k)) (rt_u I 20 11 (nd v)) L r) : rt_Call G d kX9_draw [.ref 20, .int x] I L r Q := by
  subst hx
  have hp : 0 < nI k := (nI_ltI (a := 0) (by omega) (by omega)).mpr h0
  refine v_X9_draw _ _ _ _ ⟨fun _ => ⟨pos_ne hp, ?_⟩, fun z => absurd hp z⟩
  rw [hv, ← nd_eq, (dv_ex h0 hk).2]
  exact hQ
theorem wX9_throw2 {x y z : Int32} {w p q : Nat} (hS : XZ s I) (hk : sok s) (hM : XMo s m I 16) (hx : x = nI w) (hy : y = nI p) (hz : z = nI q) (hw : w < s.nr) (hp : p < s.np) (hq : q < s.np) (hne : ¬ p = q)
    (h1 : usd s m (nI w) = true → Q (-2) I L r) (h0 : ¬ usd s m (nI w) = true → ∀ M, Fr M I [18, 19] → XMo s (sM m w (nI p) (nI q)) M 16 → Q (8 * m (40 + 2 * w) + m (41 + 2 * w)) M L r) : rt_Call G (d + 2) kX9_throwRoad [.ref 20, .int x, .int y, .int z] I L r Q := by
  have h12 := hk.2.1
  have h8 := hk.1
  subst hx hy hz
  have i1 : inr (nI w) s.nr := (inr_iff (by omega)).mpr ⟨w, hw, rfl⟩
  have i2 : inr (nI p) s.np := (inr_iff (by omega)).mpr ⟨p, hp, rfl⟩
  have i3 : inr (nI q) s.np := (inr_iff (by omega)).mpr ⟨q, hq, rfl⟩
  refine v_X9_throwRoad _ _ _ _ _ _ (sX2_hasRoad hS.2.1 (fun z1 => ⟨fun q => absurd q (by decide), fun _ => sX2_hasPlace hS.1 (fun z2 => ⟨fun q => absurd q (by decide), fun _ => sX2_hasPlace hS.1 (fun z3 => ⟨fun q => absurd q (by decide), fun _ => ⟨fun z4 => ?_, fun z4 => absurd ((nI_eq (by omega) (by omega)).mp z4) hne⟩⟩) (fun z3 => absurd i3 z3)⟩) (fun z2 => absurd i2 z2)⟩) (fun z1 => absurd i1 z1))
  refine wX4_usd hS hk hM (fun q v hv => ⟨fun y => absurd y hv, fun _ => h1 q⟩) (fun q => ⟨fun _ => ?_, fun y => absurd rfl y⟩)
  have hv : vp_in (nI w) 12 := vp_nI rfl (by omega) (by omega)
  have e1 : I 18 w = m (40 + 2 * w) := hM.2.2.1 w hw
  have e2 : I 19 w = m (41 + 2 * w) := hM.2.2.2 w hw
  refine ⟨hv, hv, hv, hv, ?_⟩
  rw [cl (n := w) rfl (by omega), e1, e2]
  exact h0 (by rw [q]; decide) _ (((Fr.refl _ _).u (by decide)).u (by decide)) (XMo.s2 hk hM hw)
theorem ym_e {x : Int32} (hk : sok s) (h2 : 2 ≤ s.np) (hr : 0 < s.nr) : ym s m x = if usd s m (nI (yw s x)) = true then m else sM m (yw s x) (nI (yp s x)) (nI (yq s x)) := by
  have h12 := hk.2.1
  have h8 := hk.1
  have hw : yw s x < s.nr := (dv_ex hr (by omega)).1
  obtain ⟨a, b, c⟩ := yq_lt (x := x) h2 h8
  unfold ym
  generalize yw s x = w at *
  generalize yp s x = p at *
  generalize yq s x = q at *
  unfold aStorm
  have i1 : inr (nI w) s.nr := (inr_iff (by omega)).mpr ⟨w, hw, rfl⟩
  have i2 : inr (nI p) s.np := (inr_iff (by omega)).mpr ⟨p, a, rfl⟩
  have i3 : inr (nI q) s.np := (inr_iff (by omega)).mpr ⟨q, b, rfl⟩
  rw [if_pos ⟨by rw [Bool.and_eq_true, Bool.and_eq_true]; exact ⟨inb_iff.mpr i1, inb_iff.mpr i2, inb_iff.mpr i3⟩, fun e => c ((nI_eq (by omega) (by omega)).mp e)⟩, cc_nI (by omega)]
  split
  · rfl
  · rfl
end
