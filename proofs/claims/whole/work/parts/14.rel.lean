/-! ===== what the two states have to do with each other ===== -/
def bb (x : Int32) (k : Nat) : Bool := decide ((x >>> (nI k &&& 31)) &&& 1 = 1)
def FrW (f : Nat → Int32) : Prop := (∀ g, g < 8 → ∃ k, k < 256 ∧ f g = nI k) ∧ (∀ g h, g < 8 → h < 8 → bb (f g) h = bb (f h) g) ∧ ∀ g, g < 8 → bb (f g) g = false
def Wf (v : Vw) : Prop := Wb v ∧ W9 v ∧ (∃ b, b ≤ 30 ∧ v 0 2 = nI b) ∧ (∃ b, b ≤ 30 ∧ v 0 5 = nI b) ∧ zb (v 0 4) ∧ (∃ c, c < 256 ∧ v 0 1 = nI c) ∧ (∃ k, k ≤ 6 ∧ v 0 6 = nI k) ∧ FrW (v 4)
def pth (f : Nat → Int32) : Nat → Nat → Nat → Prop
  | 0, x, y => bb (f x) y = true
  | n + 1, x, y => ∃ z, z < 6 ∧ bb (f x) z = true ∧ pth f n z y
/-- the class's rows are what follows through others too; the reference's are the pairs told -/
def Pm (n : Nat) (f g : Nat → Int32) : Prop := (∀ x, x < 6 → ∃ k, k < 64 ∧ f x = nI k) ∧ (∀ x, x < 6 → ∃ k, k < 64 ∧ g x = nI k) ∧ (∀ x y, x < 6 → y < 6 → bb (g x) y = true → x < n ∧ y < n) ∧ (∀ x y, x < 6 → y < 6 → (bb (f x) y = true ↔ ∃ m, pth g m x y)) ∧ ∀ x, x < 6 → bb (f x) x = false
def Pp (k1 : Int32) (p1 : Nat → Int32) (k2 : Int32) (p2 : Nat → Int32) : Prop := k1 = k2 ∧ (∃ k, k ≤ 48 ∧ k2 = nI k) ∧ ∀ i, i < 48 → p1 i = p2 i
def vIm (im : Nat → Int32) (o : Nat) : Vw := fun r => match r with
  | 0 => fun i => match i with
    | 0 => im (o + 84)
    | 1 => im (o + 85)
    | 2 => im (o + 86)
    | 3 => im (o + 87)
    | 4 => im (o + 88)
    | 5 => im (o + 89)
    | 6 => im (o + 90)
    | _ => 0
  | 1 => tr 48 (fun i => im (o + i))
  | 2 => tr 6 (fun i => im (o + 48 + i))
  | 3 => tr 6 (fun i => im (o + 60 + i))
  | 4 => tr 8 (fun i => im (o + 91 + i))
  | 5 => tr 6 (fun i => im (o + 66 + 3 * i))
  | 6 => tr 6 (fun i => im (o + 66 + (3 * i + 1)))
  | 7 => tr 6 (fun i => im (o + 66 + (3 * i + 2)))
  | _ => fun _ => 0
def Pi1 (t : Int32) (v : Vw) (af im : Nat → Int32) (o : Nat) (t2 : Int32) : Prop := t = t2 ∧ zb t2 ∧ (t2 = 1 → v = vIm im o ∧ Wf v ∧ Pm (nA v) af (fun a => im (o + 54 + a)))
def Rl (μ : Mm) : Prop := (vS μ 3 = vM μ ∧ Wf (vM μ)) ∧ Pp (μ 1 1) (μ 2) (μ 55 13) (μ 62) ∧ Pm (nA (vM μ)) (μ 7) (μ 58) ∧ Pi1 (μ 23 1) (vS μ 24) (μ 28) (μ 70) 0 (μ 71 0) ∧ Pi1 (μ 34 1) (vS μ 35) (μ 39) (μ 70) 100 (μ 71 1)
/-- the class's cells that hold nothing between calls -/
def sXb (c _k : Nat) : Bool := (Nat.ble 13 c && Nat.ble c 22) || (Nat.ble 45 c && Nat.ble c 54)
def AgX (μ μ' : Mm) : Prop := ∀ c k, sXb c k = false → μ' c k = μ c k
theorem AgX.rf (μ : Mm) : AgX μ μ := fun _ _ _ => rfl
theorem AgX.tr {μ μ' μ'' : Mm} (h : AgX μ μ') (h' : AgX μ' μ'') : AgX μ μ'' := fun c k e => (h' c k e).trans (h c k e)
theorem AgX.st {μ μ' : Mm} (h : AgX μ μ') {c k : Nat} {x : Int32} (e : sXb c k = true) : AgX μ (mS μ' c k x) := fun c' k' e' => by
  rw [mS_ne (fun z => by rw [z.1, z.2, e] at e'; cases e')]
  exact h c' k' e'
theorem AgX.cell {μ μ' : Mm} (h : AgX μ μ') {c : Nat} (e : ∀ k, sXb c k = false) : μ' c = μ c := funext fun k => h c k (e k)
theorem vS_congr {μ μ' : Mm} {c : Nat} (h : ∀ d, d ≤ 9 → μ' (c + d) = μ (c + d)) : vS μ' c = vS μ c := by
  have e0 : μ' c = μ c := h 0 (by omega)
  funext r
  unfold vS
  simp only [e0, h 1 (by omega), h 2 (by omega), h 3 (by omega), h 5 (by omega), h 6 (by omega), h 7 (by omega), h 8 (by omega), h 9 (by omega)]
theorem vM_congr {μ μ' : Mm} (h55 : ∀ k, k < 6 → μ' 55 k = μ 55 k) (h11 : μ' 55 11 = μ 55 11) (e56 : μ' 56 = μ 56) (e57 : μ' 57 = μ 57) (e59 : μ' 59 = μ 59) (e60 : μ' 60 = μ 60) (e61 : μ' 61 = μ 61) : vM μ' = vM μ := by
  funext r
  unfold vM
  simp only [e56, e57, e59, e60, e61, h55 0 (by omega), h55 1 (by omega), h55 2 (by omega), h55 3 (by omega), h55 4 (by omega), h55 5 (by omega), h11]
theorem le9 {p : Nat → Prop} (h0 : p 0) (h1 : p 1) (h2 : p 2) (h3 : p 3) (h4 : p 4) (h5 : p 5) (h6 : p 6) (h7 : p 7) (h8 : p 8) (h9 : p 9) (d : Nat) (hd : d ≤ 9) : p d := by
  have : d = 0 ∨ d = 1 ∨ d = 2 ∨ d = 3 ∨ d = 4 ∨ d = 5 ∨ d = 6 ∨ d = 7 ∨ d = 8 ∨ d = 9 := by omega
  rcases this with rfl | rfl | rfl | rfl | rfl | rfl | rfl | rfl | rfl | rfl
  · exact h0
  · exact h1
  · exact h2
  · exact h3
  · exact h4
  · exact h5
  · exact h6
  · exact h7
  · exact h8
  · exact h9
theorem AgX.Rl {μ μ' : Mm} (h : AgX μ μ') (r : Rl μ) : Rl μ' := by
  have e3 : vS μ' 3 = vS μ 3 := vS_congr (le9 (p := fun d => μ' (3 + d) = μ (3 + d)) (h.cell fun _ => rfl) (h.cell fun _ => rfl) (h.cell fun _ => rfl) (h.cell fun _ => rfl) (h.cell fun _ => rfl) (h.cell fun _ => rfl) (h.cell fun _ => rfl) (h.cell fun _ => rfl) (h.cell fun _ => rfl) (h.cell fun _ => rfl))
  have e24 : vS μ' 24 = vS μ 24 := vS_congr (le9 (p := fun d => μ' (24 + d) = μ (24 + d)) (h.cell fun _ => rfl) (h.cell fun _ => rfl) (h.cell fun _ => rfl) (h.cell fun _ => rfl) (h.cell fun _ => rfl) (h.cell fun _ => rfl) (h.cell fun _ => rfl) (h.cell fun _ => rfl) (h.cell fun _ => rfl) (h.cell fun _ => rfl))
  have e35 : vS μ' 35 = vS μ 35 := vS_congr (le9 (p := fun d => μ' (35 + d) = μ (35 + d)) (h.cell fun _ => rfl) (h.cell fun _ => rfl) (h.cell fun _ => rfl) (h.cell fun _ => rfl) (h.cell fun _ => rfl) (h.cell fun _ => rfl) (h.cell fun _ => rfl) (h.cell fun _ => rfl) (h.cell fun _ => rfl) (h.cell fun _ => rfl))
  have eM : vM μ' = vM μ := vM_congr (fun k _ => h 55 k rfl) (h 55 11 rfl) (h.cell fun _ => rfl) (h.cell fun _ => rfl) (h.cell fun _ => rfl) (h.cell fun _ => rfl) (h.cell fun _ => rfl)
  have c2 : μ' 2 = μ 2 := h.cell fun _ => rfl
  have c7 : μ' 7 = μ 7 := h.cell fun _ => rfl
  have c62 : μ' 62 = μ 62 := h.cell fun _ => rfl
  have c58 : μ' 58 = μ 58 := h.cell fun _ => rfl
  have c28 : μ' 28 = μ 28 := h.cell fun _ => rfl
  have c39 : μ' 39 = μ 39 := h.cell fun _ => rfl
  have c70 : μ' 70 = μ 70 := h.cell fun _ => rfl
  unfold Jvm.Pilot.CActsPaidLaw_law_r7702_241336.Rl
  rw [e3, e24, e35, eM, c2, c7, c62, c58, c28, c39, c70, h 1 1 rfl, h 55 13 rfl, h 23 1 rfl, h 34 1 rfl, h 71 0 rfl, h 71 1 rfl]
  exact r
theorem AgM.Rl {μ μ' : Mm} (h : AgM μ μ') (r : Rl μ) : Rl μ' := by
  have e3 : vS μ' 3 = vS μ 3 := vS_congr (le9 (p := fun d => μ' (3 + d) = μ (3 + d)) (h.cell fun _ => rfl) (h.cell fun _ => rfl) (h.cell fun _ => rfl) (h.cell fun _ => rfl) (h.cell fun _ => rfl) (h.cell fun _ => rfl) (h.cell fun _ => rfl) (h.cell fun _ => rfl) (h.cell fun _ => rfl) (h.cell fun _ => rfl))
  have e24 : vS μ' 24 = vS μ 24 := vS_congr (le9 (p := fun d => μ' (24 + d) = μ (24 + d)) (h.cell fun _ => rfl) (h.cell fun _ => rfl) (h.cell fun _ => rfl) (h.cell fun _ => rfl) (h.cell fun _ => rfl) (h.cell fun _ => rfl) (h.cell fun _ => rfl) (h.cell fun _ => rfl) (h.cell fun _ => rfl) (h.cell fun _ => rfl))
  have e35 : vS μ' 35 = vS μ 35 := vS_congr (le9 (p := fun d => μ' (35 + d) = μ (35 + d)) (h.cell fun _ => rfl) (h.cell fun _ => rfl) (h.cell fun _ => rfl) (h.cell fun _ => rfl) (h.cell fun _ => rfl) (h.cell fun _ => rfl) (h.cell fun _ => rfl) (h.cell fun _ => rfl) (h.cell fun _ => rfl) (h.cell fun _ => rfl))
  have c2 : μ' 2 = μ 2 := h.cell fun _ => rfl
  have c7 : μ' 7 = μ 7 := h.cell fun _ => rfl
  have c62 : μ' 62 = μ 62 := h.cell fun _ => rfl
  have c58 : μ' 58 = μ 58 := h.cell fun _ => rfl
  have c28 : μ' 28 = μ 28 := h.cell fun _ => rfl
  have c39 : μ' 39 = μ 39 := h.cell fun _ => rfl
  have c70 : μ' 70 = μ 70 := h.cell fun _ => rfl
  unfold Jvm.Pilot.CActsPaidLaw_law_r7702_241336.Rl
  rw [e3, e24, e35, h.vM, c2, c7, c62, c58, c28, c39, c70, h 1 1 rfl, h 55 13 rfl, h 23 1 rfl, h 34 1 rfl, h 71 0 rfl, h 71 1 rfl]
  exact r
/-- the two answers are one, and the states go on as they should -/
def Gd (v1 v2 : MV) (μ : Mm) : Prop := v1 = v2 ∧ Rl μ
theorem Rl.v {μ : Mm} (r : Rl μ) : vS μ 3 = vM μ := r.1.1
theorem Rl.wf {μ : Mm} (r : Rl μ) : Wf (vM μ) := r.1.2
theorem Rl.wb {μ : Mm} (r : Rl μ) : Wb (vM μ) := r.1.2.1
theorem Rl.w9 {μ : Mm} (r : Rl μ) : W9 (vM μ) := r.1.2.2.1
theorem Rl.wbX {μ : Mm} (r : Rl μ) : Wb (vS μ 3) := by rw [r.v]; exact r.wb
theorem Rl.n3 {μ : Mm} (r : Rl μ) : μ 3 0 = nI (nA (vM μ)) := by
  have h := r.wbX.1.2.2
  rw [r.v] at h
  rw [← h, ← r.v]
  rfl
theorem Rl.n55 {μ : Mm} (r : Rl μ) : μ 55 0 = nI (nA (vM μ)) := r.wb.1.2.2
theorem act_in {n : Nat} {a : Int32} (h1 : 1 ≤ n) (h6 : n ≤ 6) (h : decide (0 ≤ a ∧ a ≤ nI n - 1) = true) : ∃ k, k < n ∧ a = nI k := by
  have h := of_decide_eq_true h
  rw [show (1 : Int32) = nI 1 from rfl, nI_sub h1] at h
  obtain ⟨k, hk, rfl⟩ := nI_btw (by omega) h.1 h.2
  exact ⟨k, by omega, rfl⟩
theorem gst_in {v : Vw} {a : Int32} (h : cmB v a = true) : ∃ g, g < 8 ∧ a = nI g := by
  unfold cmB at h
  simp only [Bool.and_eq_true, decide_eq_true_eq] at h
  obtain ⟨k, hk, rfl⟩ := nI_btw (n := 7) (by omega) h.1.1 h.1.2
  exact ⟨k, by omega, rfl⟩
theorem cell_eq {μ : Mm} (r : Rl μ) (a b : Nat) : vS μ 3 a b = vM μ a b := by rw [r.v]
theorem call_takings {μ : Mm} (r : Rl μ) : s_X9_takings [mO 8 0] μ (fun v1 μ1 => s_X10_takings [mO 9 55] μ1 (fun v2 μ2 => Gd v1 v2 μ2)) :=
  g_X9_takings (c_allPay r.wbX (g_X10_takings (d_allTakings r.wb r.w9 fun μ' ha => ⟨by rw [r.v], ha.Rl r⟩)))
theorem call_leaves {μ : Mm} (r : Rl μ) (a b : Int32) : s_X9_leaves [mO 8 0, mI a, mI b] μ (fun v1 μ1 => s_X10_leaves [mO 9 55, mI a, mI b] μ1 (fun v2 μ2 => Gd v1 v2 μ2)) := by
  refine g_X9_leaves (c_comes ?_)
  rw [vI_mI, ite_b, r.v]
  cases hc : cmB (vM μ) a with
  | false =>
    refine g_X10_leaves (d_comes ?_)
    rw [vI_mI, ite_b, hc]
    exact ⟨rfl, r⟩
  | true =>
    obtain ⟨g, hg, rfl⟩ := gst_in hc
    refine c_within ?_
    rw [vI_mI, ite_b]
    cases hb : decide (0 ≤ b ∧ b ≤ 2) with
    | false =>
      refine g_X10_leaves (d_comes ?_)
      rw [vI_mI, ite_b, hc]
      refine d_in ?_
      rw [vI_mI, ite_b, hb]
      exact ⟨rfl, r⟩
    | true =>
      have h6 : LV (vS μ 3) g ≤ 6 := Nat.le_trans LV_le r.wbX.1.2.1
      refine c_behind r.wbX hg ?_
      rw [vI_mI]
      refine c_price h6 ?_
      rw [vI_mI]
      have e2 : ∀ x : MV, ∀ μ1 : Mm, μ1 = μ → (∀ μ', AgM μ μ' → x = (if b = 0 then mI (nI (LV (vM μ) g)) else if b = 1 then mI (pay (vM μ) g) else mI (OWN (vM μ) g))) → s_X10_leaves [mO 9 55, mI (nI g), mI b] μ1 (fun v2 μ2 => Gd x v2 μ2) := by
        intro x μ1 e hx
        subst e
        refine g_X10_leaves (d_comes ?_)
        rw [vI_mI, ite_b, hc]
        refine d_in ?_
        rw [vI_mI, ite_b, hb]
        refine d_leavesAt r.wb r.w9 hg fun μ' ha ho => ?_
        have hx := hx μ' ha
        rw [vI_mI]
        split
        · rename_i q
          rw [if_pos q] at hx
          exact ⟨hx, ha.Rl r⟩
        · rename_i q
          rw [if_neg q] at hx
          split
          · rename_i q2
            rw [if_pos q2] at hx
            refine d_faresOf (by rw [ha.vM]; exact r.w9) (Nat.le_trans LV_le r.wb.1.2.1) ?_
            rw [ha 55 2 rfl, ha 55 3 rfl]
            exact ⟨hx, ha.Rl r⟩
          · rename_i q2
            rw [if_neg q2] at hx
            rw [ho]
            exact ⟨hx, ha.Rl r⟩
      split
      · rename_i q
        exact e2 _ _ rfl (fun _ _ => by rw [if_pos q, r.v])
      · rename_i q
        split
        · rename_i q2
          refine e2 _ _ rfl (fun _ _ => ?_)
          rw [if_neg q, if_pos q2, ← r.v]
          rfl
        · rename_i q2
          refine c_worthOfFirst r.wbX hg h6 ?_
          refine e2 _ _ rfl (fun _ _ => ?_)
          rw [if_neg q, if_neg q2, ← r.v]
          congr 1
          exact (lv_own _).symm
