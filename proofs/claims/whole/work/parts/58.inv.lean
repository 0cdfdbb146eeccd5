/-! THE WHOLE STATE: the class's picture and the model's; rows that are told -/
abbrev MO : Type := Nat → Int32
abbrev MKT : Type := Nat × (Nat → Int32) × (Nat → Int32)
abbrev TXT : Type := Nat × (Nat → Int32)
def XRw (row : List Int32) (I : rt_I) : Prop := I 42 1 = nI row.length ∧ hasL (I 43) row
def MRw (row : List Int32) (I : rt_I) : Prop := I 108 13 = nI row.length ∧ hasL (I 115) row
def XMk (mk : MKT) (I : rt_I) : Prop := I 38 2 = nI mk.1 ∧ AG mk.1 (I 39) mk.2.1 ∧ AG mk.1 (I 40) mk.2.2
def MMk (mk : MKT) (I : rt_I) : Prop := I 108 48 = nI mk.1 ∧ ∀ k, k < mk.1 → I 129 (2 * k) = mk.2.1 k ∧ I 129 (2 * k + 1) = mk.2.2 k
def XTx (tx : TXT) (I : rt_I) : Prop := I 1 1 = nI tx.1 ∧ AG tx.1 (I 2) tx.2
def MTx (tx : TXT) (I : rt_I) : Prop := I 108 11 = nI tx.1 ∧ (∀ j, j < tx.1 → I 114 j &&& 255 = tx.2 j) ∧ ∀ i, byok (I 114 i)
def XI (s : SV) (m : MO) (us : List MO) (kp : Nat → Option MO) (mk : MKT) (row : List Int32) (tx : TXT) (I : rt_I) : Prop :=
  XZ s I ∧ XMo s m I 16 ∧ XH s us I ∧ XK s kp I ∧ XMk mk I ∧ XRw row I ∧ XTx tx I
def MI (B : Nat) (s : SV) (m : MO) (us : List MO) (kp : Nat → Option MO) (mk : MKT) (row : List Int32) (tx : TXT) (I : rt_I) : Prop :=
  MZ s I ∧ MMo s m (I 109) ∧ MH s us I ∧ MK s kp B I ∧ MMk mk I ∧ MRw row I ∧ MTx tx I
def WF (B : Nat) (s : SV) (m : MO) (us : List MO) (kp : Nat → Option MO) (mk : MKT) (row : List Int32) (tx : TXT) : Prop :=
  sok s ∧ mok s B m ∧ (∀ u, u ∈ us → mok s B u) ∧ (∀ i u, i < 2 → kp i = some u → mok s B u) ∧ B < 2 ^ 28 ∧
  (mk.1 ≤ 10 ∧ ∀ k, k < mk.1 → (∃ a, a < 1000 ∧ mk.2.1 k = nI a) ∧ ∃ b, b ≤ 180 ∧ mk.2.2 k = nI b) ∧ row.length ≤ 16 ∧ (tx.1 ≤ 80 ∧ ∀ j, j < tx.1 → ∃ b, b < 256 ∧ tx.2 j = nI b)
theorem Fr.hi {M I : rt_I} {cs : List Nat} (h : Fr M I cs) (hc : ∀ x ∈ cs, x < 108) : ∀ c, 108 ≤ c → M c = I c := fun c hc2 => h c (fun z => by have := hc c z; omega)
theorem Fr.lo {M I : rt_I} {cs : List Nat} (h : Fr M I cs) (hc : ∀ x ∈ cs, 108 ≤ x) : ∀ c, c < 108 → M c = I c := fun c hc2 => h c (fun z => by have := hc c z; omega)
theorem XRw.fr {row : List Int32} {M I : rt_I} (h : XRw row I) (h1 : M 42 = I 42) (h2 : M 43 = I 43) : XRw row M := by unfold XRw; rw [h1, h2]; exact h
theorem MRw.fr {row : List Int32} {M I : rt_I} (h : MRw row I) (h1 : M 108 13 = I 108 13) (h2 : M 115 = I 115) : MRw row M := by unfold MRw; rw [h1, h2]; exact h
theorem XMk.fr {mk : MKT} {M I : rt_I} (h : XMk mk I) (h1 : M 38 2 = I 38 2) (h2 : M 39 = I 39) (h3 : M 40 = I 40) : XMk mk M := by unfold XMk; rw [h1, h2, h3]; exact h
theorem MMk.fr {mk : MKT} {M I : rt_I} (h : MMk mk I) (h1 : M 108 48 = I 108 48) (h2 : M 129 = I 129) : MMk mk M := by unfold MMk; rw [h1, h2]; exact h
theorem XTx.fr {tx : TXT} {M I : rt_I} (h : XTx tx I) (h1 : M 1 1 = I 1 1) (h2 : M 2 = I 2) : XTx tx M := by unfold XTx; rw [h1, h2]; exact h
theorem MTx.fr {tx : TXT} {M I : rt_I} (h : MTx tx I) (h1 : M 108 11 = I 108 11) (h2 : M 114 = I 114) : MTx tx M := by unfold MTx; rw [h1, h2]; exact h
section
variable {B : Nat} {s : SV} {m : MO} {us : List MO} {kp : Nat → Option MO} {mk : MKT} {row : List Int32} {tx : TXT} {M I : rt_I}
theorem XI.keep (h : XI s m us kp mk row tx I) (hf : ∀ c, c < 108 → M c = I c) : XI s m us kp mk row tx M := by
  obtain ⟨h1, h2, h3, h4, h5, h6, h7⟩ := h
  refine ⟨h1.fr ⟨by rw [hf 12 (by omega)], by rw [hf 12 (by omega)]⟩ (by rw [hf 16 (by omega)]) (by rw [hf 3 (by omega)]) (hf 4 (by omega)) (hf 13 (by omega)) (hf 14 (by omega)) (hf 15 (by omega)) (by rw [hf 6 (by omega)]) (hf 7 (by omega)) (by rw [hf 20 (by omega)]), h2.fr (by rw [hf 16 (by omega)]) (hf 17 (by omega)) (hf 18 (by omega)) (hf 19 (by omega)), h3.fr (hf 21 (by omega)) (fun c a b => hf c (by omega)), h4.fr (hf 24 (by omega)) (fun c a b => hf c (by omega)), h5.fr (by rw [hf 38 (by omega)]) (hf 39 (by omega)) (hf 40 (by omega)), h6.fr (hf 42 (by omega)) (hf 43 (by omega)), h7.fr (by rw [hf 1 (by omega)]) (hf 2 (by omega))⟩
theorem MI.keep (h : MI B s m us kp mk row tx I) (hf : ∀ c, 108 ≤ c → M c = I c) : MI B s m us kp mk row tx M := by
  obtain ⟨h1, h2, h3, h4, h5, h6, h7⟩ := h
  have h8 := hf 108 (by omega)
  refine ⟨h1.fr (fun j _ => by rw [h8]) (by rw [h8]; exact h1.2.2.2.2.2.2.2.2.2.2) (hf 110 (by omega)) (hf 111 (by omega)) (hf 112 (by omega)) (hf 113 (by omega)) (hf 120 (by omega)), by rw [hf 109 (by omega)]; exact h2, h3.fr (by rw [h8]) (hf 122 (by omega)), h4.fr (by rw [h8]) (hf 132 (by omega)) (hf 133 (by omega)) (hf 134 (by omega)), h5.fr (by rw [h8]) (hf 129 (by omega)), h6.fr (by rw [h8]) (hf 115 (by omega)), h7.fr (by rw [h8]) (hf 114 (by omega))⟩
/-- what questions of the class change: scratch and the row -/
def qs : List Nat := [5, 8, 9, 10, 11, 20, 25, 26, 27, 28, 29, 30, 31, 32, 33, 34, 35, 36, 37, 38, 42, 43, 104, 105, 106, 107]
theorem XI.q {row' : List Int32} (h : XI s m us kp mk row tx I) (hf : Fr M I qs) (h20 : M 20 4 = I 20 4) (h38 : M 38 2 = I 38 2) (hr : XRw row' M) : XI s m us kp mk row' tx M := by
  obtain ⟨h1, h2, h3, h4, h5, h6, h7⟩ := h
  have hg : ∀ c, (40 ≤ c → c ≤ 40 ∨ 44 ≤ c) → (c ≤ 4 ∨ 6 ≤ c) → (c ≤ 7 ∨ 12 ≤ c) → (c ≤ 19 ∨ 21 ≤ c) → (c ≤ 24 ∨ 39 ≤ c) → (c ≤ 103 ∨ 108 ≤ c) → c ≠ 42 → c ≠ 43 → M c = I c := fun c a1 a2 a3 a4 a5 a6 a7 a8 => hf c (fun z => by
    unfold qs at z
    simp only [List.mem_cons, List.not_mem_nil, or_false] at z
    omega)
  refine ⟨h1.fr ⟨by rw [hf 12 (by decide)], by rw [hf 12 (by decide)]⟩ (by rw [hf 16 (by decide)]) (by rw [hf 3 (by decide)]) (hf 4 (by decide)) (hf 13 (by decide)) (hf 14 (by decide)) (hf 15 (by decide)) (by rw [hf 6 (by decide)]) (hf 7 (by decide)) h20, h2.fr (by rw [hf 16 (by decide)]) (hf 17 (by decide)) (hf 18 (by decide)) (hf 19 (by decide)), h3.fr (hf 21 (by decide)) (fun c a b => hg c (by omega) (by omega) (by omega) (by omega) (by omega) (by omega) (by omega) (by omega)), h4.fr (hf 24 (by decide)) (fun c a b => hg c (by omega) (by omega) (by omega) (by omega) (by omega) (by omega) (by omega) (by omega)), h5.fr h38 (hf 39 (by decide)) (hf 40 (by decide)), hr, h7.fr (by rw [hf 1 (by decide)]) (hf 2 (by decide))⟩
/-- what questions of the model change -/
def qm : List Nat := [108, 115, 116, 117, 118, 119, 121, 123, 124, 125, 126, 127, 128, 130, 131]
def q8 : List Nat := [13, 14, 15, 16, 17, 18, 19, 22, 23, 28, 33, 34, 35, 36, 37, 42, 44, 45, 46, 50]
theorem MI.q {row' : List Int32} (h : MI B s m us kp mk row tx I) (hf : Fr M I qm) (h8 : F8 M I q8) (h28 : M 108 28 = 0) (hr : MRw row' M) : MI B s m us kp mk row' tx M := by
  obtain ⟨h1, h2, h3, h4, h5, h6, h7⟩ := h
  refine ⟨h1.fr (fun j hj => h8 j (fun z => by
    unfold q8 at z
    simp only [List.mem_cons, List.not_mem_nil, or_false] at hj z
    omega)) h28 (hf 110 (by decide)) (hf 111 (by decide)) (hf 112 (by decide)) (hf 113 (by decide)) (hf 120 (by decide)), by rw [hf 109 (by decide)]; exact h2, h3.fr (h8 31 (by decide)) (hf 122 (by decide)), h4.fr (h8 52 (by decide)) (hf 132 (by decide)) (hf 133 (by decide)) (hf 134 (by decide)), h5.fr (h8 48 (by decide)) (hf 129 (by decide)), hr, h7.fr (h8 11 (by decide)) (hf 114 (by decide))⟩
theorem MI.z28 (h : MI B s m us kp mk row tx I) : I 108 28 = 0 := h.1.2.2.2.2.2.2.2.2.2.2
end
section
variable {G : rt_G} {d : Nat} {Q : rt_Q} {I : rt_I} {L : rt_L} {r : Nat} {row : List Int32}
theorem wX5_clear (hQ : ∀ M, Fr M I [42] → XRw [] M → Q 0 M L r) : rt_Call G d kX5_clear [.ref 42] I L r Q :=
  sX5_clear (hQ _ ((Fr.refl _ _).u (by decide)) ⟨rt_u_at, fun i v h => by simp at h⟩)
theorem wX5_add {v : Int32} (h : XRw row I) (hl : row.length < 16) (hQ : ∀ M, Fr M I [42, 43] → XRw (row ++ [v]) M → Q 0 M L r) : rt_Call G d kX5_add [.ref 42, .int v] I L r Q := by
  refine sX5_add h.1 hl (hQ _ (((Fr.refl _ _).u (by decide)).u (by decide)) ⟨?_, ?_⟩)
  · rw [rt_u_at, List.length_append]; rfl
  · rw [rt_u_ne (by decide), rt_u_eq]
    exact hasL.snoc h.2
theorem wX12_tell {v : Int32} (h : MRw row I) (hl : row.length < 16) (hQ : ∀ M, Fr M I [108, 115] → F8 M I [13] → MRw (row ++ [v]) M → Q 0 M L r) : rt_Call G d kX12_tell [.ref 108, .int v] I L r Q := by
  refine sX12_tell h.1 (by omega) (hQ _ (((Fr.refl _ _).u (by decide)).u (by decide)) (((F8.refl _ _).u (fun z => absurd z (by decide))).u (fun _ => by decide)) ⟨?_, ?_⟩)
  · rw [rt_u_at, List.length_append]; rfl
  · rw [rt_u_ne (by decide), rt_u_eq]
    exact hasL.snoc h.2
theorem MRw.clear : MRw [] (rt_u I 108 13 0) := ⟨rt_u_at, fun i v h => by simp at h⟩
end
