/-! rule(): the face -/
def tok (tx : TXT) : Prop := tx.1 ≤ 80 ∧ ∀ j, j < tx.1 → ∃ b, b < 256 ∧ tx.2 j = nI b
def sRV (s : SV) (R : RVT) : SV := mkS s.np s.nr s.nc s.nd s.td s.ph s.st s.rh R s.pat
def txc (tx : TXT) (k : Nat) : Nat → Int32 := ch tx.2 (min tx.1 k)
def endR (n : Nat) (c : Nat → Int32) : Option Nat := endw n (lvR c (fun _ => 0) 4 0 none).2.1 (lvR c (fun _ => 0) 4 0 none).2.2
def fRule (s : SV) (tx : TXT) : Int32 × SV :=
  if tx.1 = 0 then (0, sRV s rvd) else match endR tx.1 (txc tx 40) with | some q => (-1 - nI q, s) | none => (0, sRV s (rvo (txc tx 40)))
theorem ch_agr {f g : Nat → Int32} {l n : Nat} (h : AG n f g) (hl : l ≤ n) : ch f l = ch g l := by
  funext j
  unfold ch
  split
  · exact h j (by omega)
  · rfl
theorem endw_lt {n l p q : Nat} {w : Option Nat} (hl : l ≤ n) (h : endw l p w = some q) : endw n p w = some q := by
  unfold endw at *
  split at h
  · rw [if_pos (by omega)]; exact h
  · split
    · rw [h]; rfl
    · exact h
theorem endw_no {l p : Nat} {w : Option Nat} (h : endw l p w = none) : l ≤ p ∧ w = none := by
  unfold endw at h
  split at h
  · cases w <;> cases h
  · exact ⟨by omega, h⟩
section
variable {B : Nat} {s : SV} {m : MO} {us : List MO} {kp : Nat → Option MO} {mk : MKT} {row : List Int32} {tx : TXT} {M I : rt_I} {R : RVT}
theorem fRule_0 (h : tx.1 = 0) : fRule s tx = (0, sRV s rvd) := by unfold fRule; rw [if_pos h]
theorem fRule_f {q : Nat} (h : ¬ tx.1 = 0) (h2 : endR tx.1 (txc tx 40) = some q) : fRule s tx = (-1 - nI q, s) := by unfold fRule; rw [if_neg h, h2]
theorem fRule_t (h : ¬ tx.1 = 0) (h2 : endR tx.1 (txc tx 40) = none) : fRule s tx = (0, sRV s (rvo (txc tx 40))) := by unfold fRule; rw [if_neg h, h2]
/-- cells that reading a text in the class changes -/
theorem XI.rd (h : XI s m us kp mk row tx I) (hf : Fr M I [1, 6, 8, 9]) (h6 : M 6 1 = I 6 1) (h1 : M 1 1 = 0) : XI s m us kp mk row (0, tx.2) M := by
  obtain ⟨a1, a2, a3, a4, a5, a6, a7⟩ := h
  exact ⟨a1.fr ⟨by rw [hf 12 (by decide)], by rw [hf 12 (by decide)]⟩ (by rw [hf 16 (by decide)]) (by rw [hf 3 (by decide)]) (hf 4 (by decide)) (hf 13 (by decide)) (hf 14 (by decide)) (hf 15 (by decide)) h6 (hf 7 (by decide)) (by rw [hf 20 (by decide)]),
    a2.fr (by rw [hf 16 (by decide)]) (hf 17 (by decide)) (hf 18 (by decide)) (hf 19 (by decide)), a3.fr (hf 21 (by decide)) (fun c a b => hf c (fun z => by simp only [List.mem_cons, List.not_mem_nil, or_false] at z; omega)), a4.fr (hf 24 (by decide)) (fun c a b => hf c (fun z => by simp only [List.mem_cons, List.not_mem_nil, or_false] at z; omega)),
    a5.fr (by rw [hf 38 (by decide)]) (hf 39 (by decide)) (hf 40 (by decide)), a6.fr (by rw [hf 42 (by decide)]) (hf 43 (by decide)), h1, fun j hj => absurd hj (by omega)⟩
/-- ... and a new rule -/
theorem XI.rule (h : XI s m us kp mk row tx I) (hf : Fr M I [1, 6, 7, 8, 9]) (hR : XRule M R) (h1 : M 1 1 = 0) : XI (sRV s R) m us kp mk row (0, tx.2) M := by
  obtain ⟨⟨b1, b2, b3, b4, b5, b6, b7, b8, b9, b10⟩, a2, a3, a4, a5, a6, a7⟩ := h
  have e3 := a3.fr (hf 21 (by decide)) (fun c a b => hf c (fun z => by simp only [List.mem_cons, List.not_mem_nil, or_false] at z; omega))
  have e4 := a4.fr (hf 24 (by decide)) (fun c a b => hf c (fun z => by simp only [List.mem_cons, List.not_mem_nil, or_false] at z; omega))
  have e2 := a2.fr (by rw [hf 16 (by decide)]) (hf 17 (by decide)) (hf 18 (by decide)) (hf 19 (by decide))
  refine ⟨⟨?_, ?_, ?_, ?_, ?_, ?_, ?_, ?_, hR, ?_⟩, e2, e3, e4, a5.fr (by rw [hf 38 (by decide)]) (hf 39 (by decide)) (hf 40 (by decide)), a6.fr (by rw [hf 42 (by decide)]) (hf 43 (by decide)), h1, fun j hj => absurd hj (by omega)⟩
  · rw [hf 12 (by decide)]; exact b1
  · rw [hf 12 (by decide)]; exact b2
  · rw [hf 16 (by decide)]; exact b3
  · rw [hf 3 (by decide)]; exact b4
  · rw [hf 4 (by decide)]; exact b5
  · rw [hf 13 (by decide)]; exact b6
  · rw [hf 14 (by decide)]; exact b7
  · rw [hf 15 (by decide)]; exact b8
  · rw [hf 20 (by decide)]; exact b10
theorem MI.rule (h : MI B s m us kp mk row tx I) (hf : Fr M I [108, 120]) (h8 : F8 M I [11, 14, 16, 17, 18, 19, 27, 28]) (h28 : M 108 28 = 0) (hR : MRule M R) (h11 : M 108 11 = 0) : MI B (sRV s R) m us kp mk row (0, tx.2) M := by
  obtain ⟨⟨b1, b2, b3, b4, b5, b6, b7, b8, b9, b10, b11⟩, a2, a3, a4, a5, a6, a7⟩ := h
  have e3 := a3.fr (h8 31 (by decide)) (hf 122 (by decide))
  have e4 := a4.fr (h8 52 (by decide)) (hf 132 (by decide)) (hf 133 (by decide)) (hf 134 (by decide))
  refine ⟨⟨?_, ?_, ?_, ?_, ?_, ?_, ?_, ?_, hR, ?_, h28⟩, by rw [hf 109 (by decide)]; exact a2, e3, e4, a5.fr (h8 48 (by decide)) (hf 129 (by decide)), a6.fr (h8 13 (by decide)) (hf 115 (by decide)), h11, fun j hj => absurd hj (by omega), fun i => by rw [hf 114 (by decide)]; exact a7.2.2 i⟩
  · rw [h8 1 (by decide)]; exact b1
  · rw [h8 3 (by decide)]; exact b2
  · rw [h8 6 (by decide)]; exact b3
  · rw [h8 7 (by decide)]; exact b4
  · rw [hf 113 (by decide)]; exact b5
  · rw [hf 110 (by decide)]; exact b6
  · rw [hf 111 (by decide)]; exact b7
  · rw [hf 112 (by decide)]; exact b8
  · rw [h8 9 (by decide)]; exact b10
/-- cells that a refused text of the model changes -/
theorem MI.rd (h : MI B s m us kp mk row tx I) (hf : Fr M I [108]) (h8 : F8 M I [11, 14, 16, 17, 18, 19, 28]) (h28 : M 108 28 = 0) (h11 : M 108 11 = 0) : MI B s m us kp mk row (0, tx.2) M := by
  obtain ⟨a1, a2, a3, a4, a5, a6, a7⟩ := h
  exact ⟨a1.fr (fun j hj => h8 j (fun z => by
    simp only [List.mem_cons, List.not_mem_nil, or_false] at hj z
    omega)) h28 (hf 110 (by decide)) (hf 111 (by decide)) (hf 112 (by decide)) (hf 113 (by decide)) (hf 120 (by decide)), by rw [hf 109 (by decide)]; exact a2, a3.fr (h8 31 (by decide)) (hf 122 (by decide)), a4.fr (h8 52 (by decide)) (hf 132 (by decide)) (hf 133 (by decide)) (hf 134 (by decide)), a5.fr (h8 48 (by decide)) (hf 129 (by decide)), a6.fr (h8 13 (by decide)) (hf 115 (by decide)), h11, fun j hj => absurd hj (by omega), fun i => by rw [hf 114 (by decide)]; exact a7.2.2 i⟩
end
section
variable {G : rt_G} {d : Nat} {Q : rt_Q} {I : rt_I} {L : rt_L} {r : Nat}
variable {B : Nat} {s : SV} {m : MO} {us : List MO} {kp : Nat → Option MO} {mk : MKT} {row : List Int32} {tx : TXT}
theorem fM_rule (h : MI B s m us kp mk row tx I) (hT : tok tx) (hQ : ∀ M r', MI B (fRule s tx).2 m us kp mk row (0, tx.2) M → Lo M I → M 108 14 = 0 → Q (fRule s tx).1 M L r') : rt_Call G (d + 131) kX12_rule [.ref 108] I L r Q := by
  obtain ⟨hn, hch, hby⟩ := h.2.2.2.2.2.2
  have hmr := h.1.2.2.2.2.2.2.2.2.1
  refine sX12_rule (c := txc tx 40) hn hT.1 hby (ch_agr (n := tx.1) (fun j hj => (hch j hj).symm) (by omega)) (fun e M r' hF h8 h11 h14 h28 h27 h120 => ?_) (fun e q hq M r' hF h8 h11 h14 h28 => ?_) (fun e hq M r' hF h8 h11 h14 h28 h27 hlo hhi => ?_)
  · rw [fRule_0 e] at hQ
    refine hQ M r' (h.rule hF h8 h28 ⟨fun i => by rw [h120]; exact hmr.1 i, Or.inl ⟨h27, rfl⟩⟩ h11) (hF.lo (by decide)) h14
  · rw [fRule_f (by omega) hq] at hQ
    exact hQ M r' (h.rd hF h8 h28 h11) (hF.lo (by decide)) h14
  · rw [fRule_t (by omega) hq] at hQ
    have h40 : tx.1 ≤ 40 := by
      have hgl := g_lv (f := tx.2) (g := fun _ => 0) (l := min tx.1 40) (by omega) 4 0 none (by omega) wokn
      have h2 : endR tx.1 (txc tx 40) = none := hq
      unfold endR endw txc at h2
      split at h2
      · cases hw : (lvR (ch tx.2 (min tx.1 40)) (fun _ => 0) 4 0 none).2.2 with
        | none => rw [hw] at h2; cases h2
        | some q => rw [hw] at h2; cases h2
      · have := hgl.2.1
        omega
    refine hQ M r' (h.rule hF h8 h28 ⟨fun i => ?_, Or.inr ⟨tx.1, e, h40, h27, fun s' u' h' l' w' a' vals hv => ?_⟩⟩ h11) (hF.lo (by decide)) h14
    · rcases Nat.lt_or_ge i tx.1 with z | z
      · rw [hlo i z]; exact hby i
      · rw [hhi i z]; exact hmr.1 i
    · unfold rvo
      rw [lv_congr hv 4]
      have : ch (fun i => M 120 i &&& 255) tx.1 = txc tx 40 := by
        unfold txc
        rw [show min tx.1 40 = tx.1 from by omega]
        exact ch_agr (n := tx.1) (fun j hj => by show M 120 j &&& 255 = _; rw [hlo j hj]; exact hch j hj) (Nat.le_refl _)
      rw [this]
theorem fX_rule (h : XI s m us kp mk row tx I) (hT : tok tx) (hQ : ∀ M, XI (fRule s tx).2 m us kp mk row (0, tx.2) M → (∀ c, 108 ≤ c → M c = I c) → Q (fRule s tx).1 M L r) : rt_Call G (d + 5) kX11_rule [.ref 0] I L r Q := by
  obtain ⟨hn, hch⟩ := h.2.2.2.2.2.2
  have h80 := hT.1
  refine v_X11_rule _ _ _ (sX7_open (m := 40) hn (by omega) (by omega) ?_)
  obtain ⟨l, hl⟩ : ∃ l, l = min tx.1 40 := ⟨_, rfl⟩
  rw [← hl]
  obtain ⟨A, hA⟩ : ∃ A, A = xp (rt_u I 1 3 (nI l)) 0 := ⟨_, rfl⟩
  rw [← hA]
  have hfA : Fr A I [1] := by rw [hA]; exact ((Fr.refl I _).u (by decide)).u (by decide)
  have eA2 : A 2 = I 2 := hfA 2 (by decide)
  have eA1 : A 1 1 = nI tx.1 := by rw [hA]; exact hn
  have eA3 : A 1 3 = nI l := by rw [hA]; rfl
  have eA4 : A 1 2 = 0 := by rw [hA]; rfl
  have hcc : ch (A 2) l = txc tx 40 := by
    unfold txc
    rw [← hl, eA2]
    exact ch_agr hch (by omega)
  have hne : ∀ i, i < l → ¬ A 2 i = -1 := by
    intro i hi e
    obtain ⟨b, hb, e2⟩ := hT.2 i (by omega)
    rw [eA2, hch i (by omega), e2] at e
    exact absurd e (n_ne1 (by omega))
  have hxm := x_is_m (f := A 2) (l := l) (by omega) hne (fun _ => 0)
  refine sX6_readRule (l := l) eA1 (by omega) eA3 (by omega) eA4 (fun e M' hM => ?_) (fun hpos M' W' dp' cm' hM => ?_)
  · rw [fRule_0 e] at hQ
    have f1 : M' 1 1 = nI tx.1 := (hM.2.2.1 1 (by decide)).trans eA1
    refine ⟨fun z => absurd z (by decide), fun _ => v_X7_isAllRead _ _ _ ⟨fun z => absurd (by rw [hM.2.1, f1, e]) z, fun _ => ⟨fun z => absurd z (by decide), fun _ => sX7_clear (v_X6_accept _ _ _ ?_)⟩⟩⟩
    refine hQ _ (h.rule ?_ (Or.inl ⟨?_, rfl⟩) ?_) ?_
    · exact ((((hM.1.mono (by decide)).trans (hfA.mono (by decide)) : Fr M' I [1, 6, 7, 8, 9]).u (by decide)).uA (by decide)).u (by decide)
    · rw [rt_u_at, rt_u_ne (by decide)]
      exact hM.2.2.2.1
    · rfl
    · exact Fr.hi (cs := [1, 6, 7, 8, 9]) (((((hM.1.mono (by decide)).trans (hfA.mono (by decide)) : Fr M' I [1, 6, 7, 8, 9]).u (by decide)).uA (by decide)).u (by decide)) (by decide)
  · have hlen := (xrun_ok (f := A 2) (l := l) 41 0 true [] [] 0 0 (by omega) (by simp)).2
    have hrc := fun code => rule_code (f := A 2) (l := l) (code := code) (by omega) (by omega) hne
    obtain ⟨a1, a2⟩ := hxm
    rw [hcc] at hrc a1 a2 hM hlen ⊢
    generalize xrun (txc tx 40) 41 (0, true, [], [], 0, 0) = X at *
    have e11 : M' 1 1 = nI tx.1 := (hM.2.2.1 1 (by decide)).trans eA1
    have e12 : M' 1 2 = nI X.2.1 := hM.2.1
    have e61 : M' 6 1 = I 6 1 := (hM.2.2.2.2.2.2.2.1 1 (by decide)).trans (by rw [hfA 6 (by decide)])
    have hF : Fr M' I [1, 6, 8, 9] := hM.1.trans (hfA.mono (by decide))
    have hF2 : Fr M' I [1, 6, 7, 8, 9] := hF.mono (by decide)
    cases he : endw l (lvR (txc tx 40) (fun _ => 0) 4 0 none).2.1 (lvR (txc tx 40) (fun _ => 0) 4 0 none).2.2 with
    | some q =>
      obtain ⟨b1, b2⟩ := a1 q he
      rw [fRule_f (q := q) (by omega) (endw_lt (by omega) he)] at hQ
      rw [b1]
      refine ⟨fun _ => sX7_clear ?_, fun z => absurd rfl z⟩
      rw [e12, b2]
      exact hQ _ (h.rd (hF.u (by decide)) (by rw [rt_u_ne (by decide)]; exact e61) rt_u_at) ((hF.u (by decide)).hi (by decide))
    | none =>
      obtain ⟨b1, b2, b3⟩ := a2 he
      have hpw := endw_no he
      have hgl := g_lv (f := tx.2) (g := fun _ => 0) (l := min tx.1 40) (by omega) 4 0 none (by omega) wokn
      have hpl : (lvR (txc tx 40) (fun _ => 0) 4 0 none).2.1 = l := by
        have := hgl.2.1
        have h2 := hpw.1
        show (lvR (ch tx.2 (min tx.1 40)) (fun _ => 0) 4 0 none).2.1 = l
        have h3 : l ≤ (lvR (ch tx.2 (min tx.1 40)) (fun _ => 0) 4 0 none).2.1 := h2
        omega
      rw [b1]
      refine ⟨fun z => absurd z (by decide), fun _ => v_X7_isAllRead _ _ _ ⟨fun z => ⟨fun _ => sX7_clear ?_, fun y => absurd rfl y⟩, fun z => ⟨fun y => absurd y (by decide), fun _ => sX7_clear (v_X6_accept _ _ _ ?_)⟩⟩⟩
      · have hlt : l < tx.1 := by
          have h1 : ¬ l = tx.1 := fun e => z (by rw [e12, e11, b2, e])
          omega
        have hend : endR tx.1 (txc tx 40) = some l := by
          unfold endR endw
          rw [hpl, hpw.2, if_pos hlt]
          rfl
        rw [fRule_f (q := l) (by omega) hend] at hQ
        rw [e12, b2]
        exact hQ _ (h.rd (hF.u (by decide)) (by rw [rt_u_ne (by decide)]; exact e61) rt_u_at) ((hF.u (by decide)).hi (by decide))
      · have hlt : l = tx.1 := by
          rw [e12, e11, b2] at z
          exact (nI_eq (by omega) (by omega)).mp z
        have hend : endR tx.1 (txc tx 40) = none := by
          unfold endR endw
          rw [hpl, hpw.2, if_neg (by omega)]
        rw [fRule_t (by omega) hend] at hQ
        have h8D := hM.2.2.2.2.2.2.2.2.1
        have hcode : hasL (va_cpy (M' 8) (M' 7) 0 0 40) X.2.2 := by
          intro i v hv
          have hi : i < X.2.2.length := by
            rcases Nat.lt_or_ge i X.2.2.length with z | z
            · exact z
            · rw [List.getElem?_eq_none z] at hv; cases hv
          unfold va_cpy
          rw [if_pos ⟨by omega, by omega⟩, Nat.sub_zero, Nat.zero_add]
          exact h8D i v hv
        obtain ⟨c1, c2, c3⟩ := hrc _ b1 hcode
        have hfin := ((hF2.u (c := 1) (j := 1) (v := 0) (by decide)).uA (c := 7) (f := va_cpy (M' 8) (M' 7) 0 0 40) (by decide)).u (c := 6) (j := 1) (v := M' 6 3) (by decide)
        refine hQ _ (h.rule hfin (Or.inr ⟨X.2.2.length, c1, c2, ?_, fun s' u' h' l' w' a' vals stk hv => ?_⟩) rfl) (hfin.hi (by decide))
        · rw [rt_u_at]
          exact hM.2.2.2.1
        · rw [rt_u_ne (by decide), rt_uA_eq]
          exact c3 s' u' h' l' w' a' vals stk hv
end
