/-! ===== calls that change the state ===== -/
theorem mS_k {μ : Mm} {c k : Nat} {x : Int32} {k' : Nat} (h : k' ≠ k) : mS μ c k x c k' = μ c k' := mS_ne (fun e => h e.2)
def F0r (μ : Mm) : Prop := ∃ n, 1 ≤ n ∧ n ≤ 6 ∧ μ 3 0 = nI n ∧ μ 55 0 = nI n
def F1r (μ : Mm) : Prop := ∃ n, n < 256 ∧ μ 3 5 = nI n ∧ μ 55 1 = nI n
def F2r (μ : Mm) : Prop := ∃ n, n ≤ 30 ∧ μ 3 1 = nI n ∧ μ 55 2 = nI n
def F3r (μ : Mm) : Prop := ∃ n, n ≤ 9 ∧ μ 3 2 = nI n ∧ μ 55 3 = nI n
def F4r (μ : Mm) : Prop := ∃ n, n ≤ 1 ∧ μ 3 3 = nI n ∧ μ 55 4 = nI n
def F5r (μ : Mm) : Prop := ∃ n, n ≤ 30 ∧ μ 3 4 = nI n ∧ μ 55 5 = nI n
def F6r (μ : Mm) : Prop := ∃ n, n ≤ 6 ∧ μ 9 0 = nI n ∧ μ 55 11 = nI n
def G1r (μ : Mm) : Prop := ∀ i, i < 48 → μ 5 i = μ 56 i
def G2r (μ : Mm) : Prop := ∀ j, j < 6 → ∃ a, a < 6 ∧ μ 4 j = nI a ∧ μ 57 j = nI a
def G3r (μ : Mm) : Prop := ∀ j, j < 6 → μ 6 j = μ 59 j
def G4r (μ : Mm) : Prop := (∀ g, g < 8 → μ 8 g = μ 60 g) ∧ FrW (μ 60)
def G5r (μ : Mm) : Prop := ∀ i, i < 6 → μ 10 i = μ 61 (3 * i) ∧ μ 11 i = μ 61 (3 * i + 1) ∧ μ 12 i = μ 61 (3 * i + 2)
def Ppr (μ : Mm) : Prop := Pp (μ 1 1) (μ 2) (μ 55 13) (μ 62)
def Pmr (μ : Mm) : Prop := Pm (μ 55 0).toNatClampNeg (μ 7) (μ 58)
def Pir (μ : Mm) : Prop := Pi1 (μ 23 1) (vS μ 24) (μ 28) (μ 70) 0 (μ 71 0) ∧ Pi1 (μ 34 1) (vS μ 35) (μ 39) (μ 70) 100 (μ 71 1)
theorem FrW_tr {f : Nat → Int32} : FrW (tr 8 f) ↔ FrW f := by
  unfold FrW
  constructor
  · intro h
    refine ⟨fun g hg => ?_, fun g k hg hk => ?_, fun g hg => ?_⟩
    · have := h.1 g hg
      rw [tr_at hg] at this
      exact this
    · have := h.2.1 g k hg hk
      rw [tr_at hg, tr_at hk] at this
      exact this
    · have := h.2.2 g hg
      rw [tr_at hg] at this
      exact this
  · intro h
    refine ⟨fun g hg => ?_, fun g k hg hk => ?_, fun g hg => ?_⟩
    · rw [tr_at hg]; exact h.1 g hg
    · rw [tr_at hg, tr_at hk]; exact h.2.1 g k hg hk
    · rw [tr_at hg]; exact h.2.2 g hg
theorem Rl_mk {μ : Mm} (h0 : F0r μ) (h1 : F1r μ) (h2 : F2r μ) (h3 : F3r μ) (h4 : F4r μ) (h5 : F5r μ) (h6 : F6r μ) (g1 : G1r μ) (g2 : G2r μ) (g3 : G3r μ) (g4 : G4r μ) (g5 : G5r μ) (pp : Ppr μ) (pm : Pmr μ) (pi : Pir μ) : Rl μ := by
  obtain ⟨n0, a0, b0, c0, d0⟩ := h0
  obtain ⟨n1, a1, c1, d1⟩ := h1
  obtain ⟨n2, a2, c2, d2⟩ := h2
  obtain ⟨n3, a3, c3, d3⟩ := h3
  obtain ⟨n4, a4, c4, d4⟩ := h4
  obtain ⟨n5, a5, c5, d5⟩ := h5
  obtain ⟨n6, a6, c6, d6⟩ := h6
  have hn : nA (vM μ) = n0 := by
    show (μ 55 0).toNatClampNeg = n0
    rw [d0, nI_clamp (by omega)]
  refine ⟨⟨?_, ⟨⟨?_, fun j hj => ?_⟩, ⟨n3, a3, d3⟩, ⟨n2, a2, d2⟩, ⟨n5, a5, d5⟩, ?_, ⟨n1, a1, d1⟩, ⟨n6, a6, d6⟩, FrW_tr.mpr g4.2⟩⟩, pp, pm, pi.1, pi.2⟩
  · funext r i
    match r with
    | 0 =>
      match i with
      | 0 => exact c0.trans d0.symm
      | 1 => exact c1.trans d1.symm
      | 2 => exact c2.trans d2.symm
      | 3 => exact c3.trans d3.symm
      | 4 => exact c4.trans d4.symm
      | 5 => exact c5.trans d5.symm
      | 6 => exact c6.trans d6.symm
      | i + 7 => rfl
    | 1 => exact congrFun (tr_eq g1) i
    | 2 => exact congrFun (tr_eq (f := μ 4) (g := μ 57) fun j hj => by obtain ⟨a, _, e1, e2⟩ := g2 j hj; rw [e1, e2]) i
    | 3 => exact congrFun (tr_eq g3) i
    | 4 => exact congrFun (tr_eq g4.1) i
    | 5 => exact congrFun (tr_eq (f := μ 10) (g := fun i => μ 61 (3 * i)) fun j hj => (g5 j hj).1) i
    | 6 => exact congrFun (tr_eq (f := μ 11) (g := fun i => μ 61 (3 * i + 1)) fun j hj => (g5 j hj).2.1) i
    | 7 => exact congrFun (tr_eq (f := μ 12) (g := fun i => μ 61 (3 * i + 2)) fun j hj => (g5 j hj).2.2) i
    | r + 8 => rfl
  · rw [hn]
    exact ⟨a0, b0, d0⟩
  · obtain ⟨a, ha, -, e⟩ := g2 j hj
    have e1 : vM μ 2 j = nI a := (tr_at (f := μ 57) hj).trans e
    have e2 : oA (vM μ) j = a := by
      show (vM μ 2 j).toNatClampNeg = a
      rw [e1, nI_clamp (by omega)]
    rw [e2]
    exact ⟨ha, e1⟩
  · have : n4 = 0 ∨ n4 = 1 := by omega
    rcases this with e | e
    · left; show μ 55 4 = 0; rw [d4, e]; rfl
    · right; show μ 55 4 = 1; rw [d4, e]; rfl
theorem Rl.f0 {μ : Mm} (r : Rl μ) : F0r μ := ⟨nA (vM μ), r.n1, r.n6, r.n3, r.n55⟩
theorem Rl.f1 {μ : Mm} (r : Rl μ) : F1r μ := by
  obtain ⟨n, a, e⟩ := r.wf.2.2.2.2.2.1
  have e : μ 55 1 = nI n := e
  exact ⟨n, a, by rw [r.s1, e], e⟩
theorem Rl.f2 {μ : Mm} (r : Rl μ) : F2r μ := by
  obtain ⟨n, a, e⟩ := r.wf.2.2.1
  have e : μ 55 2 = nI n := e
  exact ⟨n, a, by rw [r.s2, e], e⟩
theorem Rl.f3 {μ : Mm} (r : Rl μ) : F3r μ := by
  obtain ⟨n, a, e⟩ := r.w9
  have e : μ 55 3 = nI n := e
  exact ⟨n, a, by rw [r.s3, e], e⟩
theorem Rl.f4 {μ : Mm} (r : Rl μ) : F4r μ := by
  have h : zb (μ 55 4) := r.wf.2.2.2.2.1
  rcases h with e | e
  · exact ⟨0, by omega, by rw [r.s4, e]; rfl, by rw [e]; rfl⟩
  · exact ⟨1, by omega, by rw [r.s4, e]; rfl, by rw [e]; rfl⟩
theorem Rl.f5 {μ : Mm} (r : Rl μ) : F5r μ := by
  obtain ⟨n, a, e⟩ := r.wf.2.2.2.1
  have e : μ 55 5 = nI n := e
  exact ⟨n, a, by rw [r.s5, e], e⟩
theorem Rl.f6 {μ : Mm} (r : Rl μ) : F6r μ := by
  obtain ⟨n, a, e⟩ := r.wf.2.2.2.2.2.2.1
  have e : μ 55 11 = nI n := e
  exact ⟨n, a, by rw [r.s6, e], e⟩
theorem Rl.g1 {μ : Mm} (r : Rl μ) : G1r μ := fun _ h => r.e1 h
theorem Rl.g2 {μ : Mm} (r : Rl μ) : G2r μ := fun j hj => by
  obtain ⟨h1, h2⟩ := r.wb.2 j hj
  have h3 : μ 57 j = nI (oA (vM μ) j) := (tr_at (f := μ 57) hj).symm.trans h2
  exact ⟨_, h1, by rw [r.e2 hj, h3], h3⟩
theorem Rl.g3 {μ : Mm} (r : Rl μ) : G3r μ := fun _ h => r.e3 h
theorem Rl.g4 {μ : Mm} (r : Rl μ) : G4r μ := ⟨fun _ h => r.e4 h, FrW_tr.mp r.wf.2.2.2.2.2.2.2⟩
theorem Rl.g5 {μ : Mm} (r : Rl μ) : G5r μ := fun _ h => ⟨r.e5 h, r.e6 h, r.e7 h⟩
theorem Rl.pp {μ : Mm} (r : Rl μ) : Ppr μ := r.2.1
theorem Rl.pm {μ : Mm} (r : Rl μ) : Pmr μ := r.2.2.1
theorem Rl.pi {μ : Mm} (r : Rl μ) : Pir μ := r.2.2.2
/-- cells that images need -/
theorem Pir.fr {μ μ' : Mm} (h : ∀ c, 23 ≤ c → c ≠ 55 → (c ≤ 44 ∨ 70 ≤ c) → μ' c = μ c) (r : Pir μ) : Pir μ' := by
  have e24 : vS μ' 24 = vS μ 24 := vS_congr fun d hd => h _ (by omega) (by omega) (by omega)
  have e35 : vS μ' 35 = vS μ 35 := vS_congr fun d hd => h _ (by omega) (by omega) (by omega)
  unfold Pir
  rw [e24, e35, h 23 (by omega) (by omega) (by omega), h 28 (by omega) (by omega) (by omega), h 34 (by omega) (by omega) (by omega), h 39 (by omega) (by omega) (by omega), h 70 (by omega) (by omega) (by omega), h 71 (by omega) (by omega) (by omega)]
  exact r
theorem call_wipe {μ : Mm} (r : Rl μ) : s_X9_wipe [mO 8 0] μ (fun v1 μ1 => s_X10_wipe [mO 9 55] μ1 (fun v2 μ2 => Gd v1 v2 μ2)) := by
  refine g_X9_wipe (g_X10_wipe ⟨?_, ?_⟩)
  · rw [mS_c (by decide), r.pp.1]
  · refine Rl_mk ?_ ?_ ?_ ?_ ?_ ?_ ?_ ?_ ?_ ?_ ?_ ?_ ?_ ?_ (r.pi.fr fun c h1 h2 h3 => by rw [mS_c h2, mS_c (by omega)])
    · unfold F0r; simp (disch := decide) only [mS_c, mS_k, mS_eq]; exact r.f0
    · unfold F1r; simp (disch := decide) only [mS_c, mS_k, mS_eq]; exact r.f1
    · unfold F2r; simp (disch := decide) only [mS_c, mS_k, mS_eq]; exact r.f2
    · unfold F3r; simp (disch := decide) only [mS_c, mS_k, mS_eq]; exact r.f3
    · unfold F4r; simp (disch := decide) only [mS_c, mS_k, mS_eq]; exact r.f4
    · unfold F5r; simp (disch := decide) only [mS_c, mS_k, mS_eq]; exact r.f5
    · unfold F6r; simp (disch := decide) only [mS_c, mS_k, mS_eq]; exact r.f6
    · unfold G1r; simp (disch := decide) only [mS_c, mS_k, mS_eq]; exact r.g1
    · unfold G2r; simp (disch := decide) only [mS_c, mS_k, mS_eq]; exact r.g2
    · unfold G3r; simp (disch := decide) only [mS_c, mS_k, mS_eq]; exact r.g3
    · unfold G4r; simp (disch := decide) only [mS_c, mS_k, mS_eq]; exact r.g4
    · unfold G5r; simp (disch := decide) only [mS_c, mS_k, mS_eq]; exact r.g5
    · unfold Ppr; simp (disch := decide) only [mS_c, mS_k, mS_eq]; exact ⟨rfl, ⟨0, by omega, rfl⟩, r.pp.2.2⟩
    · unfold Pmr; simp (disch := decide) only [mS_c, mS_k, mS_eq]; exact r.pm
