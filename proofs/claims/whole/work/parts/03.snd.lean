/-! ===== the small machine is the machine: locals, world, one instruction ===== -/
def toL (ad : Nat → Nat) (b : Nat) : Nat → List MV → List (Nat × Value)
  | _, [] => []
  | i, v :: vs => match v with
    | .inr (.inr (.inr _)) => toL ad b (i + 1) vs
    | v => (i, tv ad b v) :: toL ad b (i + 1) vs
theorem toL_of {ad : Nat → Nat} {b : Nat} : ∀ (L : List MV) (i k : Nat) (v : MV), L[k]? = some v → v ≠ mU → (i + k, tv ad b v) ∈ toL ad b i L := by
  intro L
  induction L with
  | nil => intro i k v h; simp at h
  | cons x L ih =>
    intro i k v h hv
    unfold toL
    cases k with
    | zero =>
      simp at h
      subst h
      split
      · exact absurd rfl hv
      · exact List.mem_cons_self
    | succ k =>
      have h1 := ih (i + 1) k v (by simpa using h) hv
      have e : i + 1 + k = i + (k + 1) := by omega
      rw [e] at h1
      split
      · exact h1
      · exact List.mem_cons_of_mem _ h1
theorem of_toL {ad : Nat → Nat} {b : Nat} : ∀ (L : List MV) (i : Nat) (q : Nat × Value), q ∈ toL ad b i L → ∃ k v, L[k]? = some v ∧ v ≠ mU ∧ q = (i + k, tv ad b v) := by
  intro L
  induction L with
  | nil => intro i q h; cases h
  | cons x L ih =>
    intro i q h
    unfold toL at h
    split at h
    · obtain ⟨k, v, h1, h2, h3⟩ := ih _ _ h
      exact ⟨k + 1, v, by simpa using h1, h2, by rw [h3]; congr 1; omega⟩
    · rename_i hx
      rcases List.mem_cons.mp h with h | h
      · exact ⟨0, x, rfl, fun e => hx _ e, by rw [h]; rfl⟩
      · obtain ⟨k, v, h1, h2, h3⟩ := ih _ _ h
        exact ⟨k + 1, v, by simpa using h1, h2, by rw [h3]; congr 1; omega⟩
def lR (ad : Nat → Nat) (b nL : Nat) (lg : Bool) (ls : Array Slot) (L : List MV) : Prop :=
  lv_has ls nL (toL ad b 0 L) ∧ L.length = nL ∧ (lg = false → ∀ (i : Nat) (x : Int64), L[i]? ≠ some (mJ x))
theorem lR.at {ad : Nat → Nat} {b nL : Nat} {lg : Bool} {ls : Array Slot} {L : List MV} (h : lR ad b nL lg ls L) {i : Nat} {v : MV} (hi : L[i]? = some v) (hv : v ≠ mU) : ls[i]? = some (.val (tv ad b v)) := by
  have h1 := h.1.2.2 _ (toL_of (ad := ad) (b := b) L 0 i v hi hv)
  simpa using h1
theorem tv_cat {ad : Nat → Nat} {b : Nat} {v : MV} (h : ∀ x, v ≠ mJ x) : (tv ad b v).category = 1 := by
  match v, h with
  | .inl x, _ => rfl
  | .inr (.inl x), h => exact absurd rfl (h x)
  | .inr (.inr (.inl (k, t, c))), _ =>
    unfold tv
    simp only
    split <;> rfl
  | .inr (.inr (.inr _)), _ => rfl
theorem clr_len (L : List MV) (a : Nat) : (clr L a).length = L.length := by
  unfold clr
  split
  · rfl
  · split <;> simp
theorem sto_len (lg : Bool) (L : List MV) (a : Nat) (v : MV) : (sto lg L a v).length = L.length := by
  cases lg <;> simp [sto, clr_len]
theorem clr_get {L : List MV} {a j : Nat} {w : MV} (h : (clr L a)[j]? = some w) (hw : w ≠ mU) : L[j]? = some w ∧ (j + 1 = a → ∀ x, w ≠ mJ x) := by
  unfold clr at h
  split at h
  · exact ⟨h, fun e => by omega⟩
  · rename_i a'
    split at h
    · rename_i x hx
      by_cases e : a' = j
      · subst e
        rw [List.getElem?_set_self (List.getElem?_eq_some_iff.mp hx).1] at h
        exact absurd (Option.some.inj h).symm hw
      · rw [List.getElem?_set_ne e] at h
        exact ⟨h, fun e2 => absurd (by omega) e⟩
    · rename_i hx
      refine ⟨h, fun e2 x e3 => ?_⟩
      have e4 : a' = j := by omega
      subst e4; subst e3
      exact hx x h
theorem sto_get {lg : Bool} {L : List MV} {a j : Nat} {v w : MV} (hj : j ≠ a) (h : (sto lg L a v)[j]? = some w) (hw : w ≠ mU) : L[j]? = some w ∧ (lg = true → j + 1 = a → ∀ x, w ≠ mJ x) := by
  cases lg with
  | false =>
    unfold sto at h
    rw [cond_false, List.getElem?_set_ne (fun e => hj e.symm)] at h
    exact ⟨h, fun e => by cases e⟩
  | true =>
    unfold sto at h
    rw [cond_true, List.getElem?_set_ne (fun e => hj e.symm)] at h
    exact ⟨(clr_get h hw).1, fun _ => (clr_get h hw).2⟩
theorem sto_at {lg : Bool} {L : List MV} {a : Nat} {v : MV} (h : a < L.length) : (sto lg L a v)[a]? = some v := by
  cases lg with
  | false => unfold sto; rw [cond_false, List.getElem?_set_self h]
  | true => unfold sto; rw [cond_true, List.getElem?_set_self (by rw [clr_len]; exact h)]
theorem sto_wt {sc : Bool} {lg : Bool} {L : List MV} {a : Nat} {v : MV} (h : ∀ w ∈ L, wtv sc w) (hv : wtv sc v) : ∀ w ∈ sto lg L a v, wtv sc w := by
  intro w hw
  by_cases e : w = mU
  · subst e; trivial
  obtain ⟨j, hj⟩ := List.getElem?_of_mem hw
  by_cases hja : j = a
  · subst hja
    have hl : j < (sto lg L j v).length := (List.getElem?_eq_some_iff.mp hj).1
    rw [sto_len] at hl
    rw [sto_at hl] at hj
    rw [← Option.some.inj hj]; exact hv
  · exact h w (List.mem_of_getElem? (sto_get hja hj e).1)
theorem lR.sto1 {ad : Nat → Nat} {b nL : Nat} {lg : Bool} {ls ls' : Array Slot} {L : List MV} {a : Nat} {v : MV} (h : lR ad b nL lg ls L) (ha : a < nL) (hv : v ≠ mU) (hJ : ∀ x, v ≠ mJ x)
    (h' : lv_has ls' nL ((a, tv ad b v) :: (toL ad b 0 L).filter (fun q => !(q.1 == a) && !(q.1 + 1 == a && q.2.category == 2)))) : lR ad b nL lg ls' (sto lg L a v) := by
  refine ⟨⟨h'.1, h'.2.1, fun q hq => ?_⟩, by rw [sto_len]; exact h.2.1, fun e i x hx => ?_⟩
  · obtain ⟨k, w, h1, h2, rfl⟩ := of_toL _ _ _ hq
    simp only [Nat.zero_add]
    by_cases hk : k = a
    · subst hk
      rw [sto_at (by rw [h.2.1]; exact ha)] at h1
      rw [← Option.some.inj h1]
      exact h'.2.2 _ List.mem_cons_self
    · obtain ⟨g1, g2⟩ := sto_get hk h1 h2
      refine h'.2.2 (k, tv ad b w) (List.mem_cons_of_mem _ (List.mem_filter.mpr ⟨by simpa using toL_of (ad := ad) (b := b) L 0 k w g1 h2, ?_⟩))
      have hc : k + 1 = a → (tv ad b w).category = 1 := by
        intro e
        refine tv_cat ?_
        cases lg with
        | false => exact fun x hx => h.2.2 rfl k x (by rw [g1, hx])
        | true => exact g2 rfl e
      simp only [Bool.and_eq_true, Bool.not_eq_true', beq_eq_false_iff_ne, ne_eq]
      refine ⟨hk, ?_⟩
      cases hz : (k + 1 == a) with
      | false => rfl
      | true =>
        rw [hc (by simpa using hz)]; rfl
  · by_cases hi : i = a
    · subst hi
      rw [sto_at (by rw [h.2.1]; exact ha)] at hx
      exact hJ x (Option.some.inj hx)
    · exact h.2.2 e i x (sto_get hi hx (by intro e; cases e)).1
theorem lR.sto2 {ad : Nat → Nat} {b nL : Nat} {ls ls' : Array Slot} {L : List MV} {a : Nat} {x : Int64} (h : lR ad b nL true ls L) (ha : a + 1 < nL)
    (h' : lv_has ls' nL ((a, .long x) :: (toL ad b 0 L).filter (fun q => !(q.1 == a) && (!(q.1 == a + 1) && !(q.1 + 1 == a && q.2.category == 2))))) : lR ad b nL true ls' ((sto true L a (mJ x)).set (a + 1) mU) := by
  refine ⟨⟨h'.1, h'.2.1, fun q hq => ?_⟩, by rw [List.length_set, sto_len]; exact h.2.1, fun e => by cases e⟩
  obtain ⟨k, w, h1, h2, rfl⟩ := of_toL _ _ _ hq
  simp only [Nat.zero_add]
  by_cases hk1 : a + 1 = k
  · subst hk1
    rw [List.getElem?_set_self (by rw [sto_len, h.2.1]; exact ha)] at h1
    exact absurd (Option.some.inj h1).symm h2
  rw [List.getElem?_set_ne hk1] at h1
  by_cases hk : k = a
  · subst hk
    rw [sto_at (by rw [h.2.1]; omega)] at h1
    rw [← Option.some.inj h1]
    exact h'.2.2 _ List.mem_cons_self
  · obtain ⟨g1, g2⟩ := sto_get hk h1 h2
    refine h'.2.2 (k, tv ad b w) (List.mem_cons_of_mem _ (List.mem_filter.mpr ⟨by simpa using toL_of (ad := ad) (b := b) L 0 k w g1 h2, ?_⟩))
    simp only [Bool.and_eq_true, Bool.not_eq_true', beq_eq_false_iff_ne, ne_eq]
    refine ⟨hk, fun e => hk1 e.symm, ?_⟩
    cases hz : (k + 1 == a) with
    | false => rfl
    | true =>
      rw [tv_cat (g2 rfl (by simpa using hz))]; rfl
-- the world
theorem wl_get {ad : Nat → Nat} {cI cB : Nat} {μ : Mm} {k : Nat} {q : Nat × Nat} (h : lyL[k]? = some q) : (wl ad cI cB μ)[k]? = some (ad k, cE ad cI cB μ k q) := by
  unfold wl
  rw [List.getElem?_mapIdx, h]
  rfl
theorem wl_inv {ad : Nat → Nat} {cI cB : Nat} {μ : Mm} {k : Nat} {x : Nat × va_E} (h : (wl ad cI cB μ)[k]? = some x) : ∃ q, lyL[k]? = some q ∧ x = (ad k, cE ad cI cB μ k q) := by
  unfold wl at h
  rw [List.getElem?_mapIdx] at h
  cases hq : lyL[k]? with
  | none => rw [hq] at h; cases h
  | some q => rw [hq] at h; exact ⟨q, rfl, (Option.some.inj h).symm⟩
theorem wl_D {A : Nat → Prop} {ad : Nat → Nat} {cI cB : Nat} {μ : Mm} (h : va_D A (wl ad cI cB μ)) (μ' : Mm) : va_D A (wl ad cI cB μ') := by
  refine ⟨fun i j p q hi hj e => ?_, fun k q hk => ?_⟩
  · obtain ⟨x, h1, rfl⟩ := wl_inv hi
    obtain ⟨y, h2, rfl⟩ := wl_inv hj
    exact h.1 i j _ _ (wl_get h1) (wl_get h2) e
  · obtain ⟨x, h1, rfl⟩ := wl_inv hk
    exact h.2 k (ad k, cE ad cI cB μ k x) (wl_get h1)
theorem mS_ne {μ : Mm} {c k : Nat} {x : Int32} {c' k' : Nat} (h : ¬ (c' = c ∧ k' = k)) : mS μ c k x c' k' = μ c' k' := if_neg h
theorem mS_eq {μ : Mm} {c k : Nat} {x : Int32} : mS μ c k x c k = x := if_pos ⟨rfl, rfl⟩
theorem mF_ne {ad : Nat → Nat} {b : Nat} {μ : Mm} {c k : Nat} {x : Int32} {c' k' : Nat} (h : ¬ (c' = c ∧ k' = k)) (f : Nat × Nat × Nat) : tv ad b (mF (mS μ c k x) c' k' f) = tv ad b (mF μ c' k' f) := by
  unfold mF
  split <;> first | rfl | (rw [mS_ne h])
theorem cE_ne {ad : Nat → Nat} {cI cB : Nat} {μ : Mm} {c k : Nat} {x : Int32} {c' : Nat} (h : c' ≠ c) (q : Nat × Nat) : cE ad cI cB (mS μ c k x) c' q = cE ad cI cB μ c' q := by
  have e : ∀ k', mS μ c k x c' k' = μ c' k' := fun k' => mS_ne (fun z => h z.1)
  have e2 : mS μ c k x c' = μ c' := funext e
  unfold cE
  rw [e2]
  have e3 : (fun (k' : Nat) (f : Nat × Nat × Nat) => tv ad 0 (mF (mS μ c k x) c' k' f)) = (fun k' f => tv ad 0 (mF μ c' k' f)) := by
    funext k' f
    exact mF_ne (fun z => h z.1) f
  rw [e3]
theorem wl_set {ad : Nat → Nat} {cI cB : Nat} {μ : Mm} {c k : Nat} {x : Int32} {q : Nat × Nat} {v : va_E} (h : lyL[c]? = some q) (hv : v = cE ad cI cB (mS μ c k x) c q) : (wl ad cI cB μ).set c (ad c, v) = wl ad cI cB (mS μ c k x) := by
  apply List.ext_getElem?
  intro i
  by_cases hi : c = i
  · subst hi
    rw [wl_get h, List.getElem?_set_self (List.getElem?_eq_some_iff.mp (wl_get (ad := ad) (cI := cI) (cB := cB) (μ := μ) h)).1, hv]
  · rw [List.getElem?_set_ne hi]
    unfold wl
    rw [List.getElem?_mapIdx, List.getElem?_mapIdx]
    cases lyL[i]? with
    | none => rfl
    | some y => show some (ad i, _) = some (ad i, _); rw [cE_ne (fun e => hi e.symm)]
theorem upd_mS (μ : Mm) (c i : Nat) (x : Int32) : upd (μ c) i x = mS μ c i x c := by
  funext j
  unfold upd mS
  by_cases h : j = i
  · rw [if_pos h, if_pos ⟨rfl, h⟩]
  · rw [if_neg h, if_neg (fun z => h z.2)]
def fsO (ad : Nat → Nat) (μ : Mm) (c t : Nat) : List Value := (foL.getD t []).mapIdx (fun k f => tv ad 0 (mF μ c k f))
theorem fs_get {ad : Nat → Nat} {μ : Mm} {c t k : Nat} (h : k < (foL.getD t []).length) : (fsO ad μ c t)[k]? = some (tv ad 0 (mF μ c k (fo t k))) := by
  unfold fsO fo
  rw [List.getElem?_mapIdx, List.getElem?_eq_getElem h]
  show some _ = some _
  rw [List.getD_eq_getElem?_getD (l := foL.getD t []), List.getElem?_eq_getElem h]
  rfl
theorem fs_set {ad : Nat → Nat} {μ : Mm} {c t k : Nat} {x : Int32} (h : k < (foL.getD t []).length) (hk : (fo t k).1 = 0 ∨ (fo t k).1 = 1) : (fsO ad μ c t).set k (.int x) = fsO ad (mS μ c k x) c t := by
  apply List.ext_getElem?
  intro i
  by_cases hi : k = i
  · subst hi
    rw [fs_get h, List.getElem?_set_self (by unfold fsO; rw [List.length_mapIdx]; exact h)]
    generalize hy : fo t k = y at hk ⊢
    obtain ⟨y0, y1, y2⟩ := y
    rcases hk with e | e <;> (simp only at e; subst e; show some (Value.int x) = some (.int (mS μ c k x c k)); rw [mS_eq])
  · rw [List.getElem?_set_ne hi]
    unfold fsO
    rw [List.getElem?_mapIdx, List.getElem?_mapIdx]
    cases (foL.getD t [])[i]? with
    | none => rfl
    | some y => show some (tv ad 0 (mF μ c i y)) = some (tv ad 0 (mF (mS μ c k x) c i y)); rw [mF_ne (fun z => hi z.2.symm)]
def layB : Bool := (List.range 72).all (fun c => match lyL.getD c (99, 0) with
  | (t, _) => bif Nat.blt t 20 then (List.range (foL.getD t []).length).all (fun k => match fo t k with
    | (2, off, t') => decide (lyL[c + off]? = some (t', 0)) && Nat.blt t' 10
    | (3, off, n) => decide (lyL[c + off]? = some (20, n))
    | (4, off, n) => decide (lyL[c + off]? = some (21, n))
    | (0, _, _) => true
    | (1, _, _) => true
    | _ => false) else true)
theorem layB_ok : layB = true := by decide +kernel
theorem lay_wt {sc : Bool} {μ : Mm} {t c k : Nat} (h : lyL[c]? = some (t, 0)) (ht : t < 10) (hk : k < (foL.getD t []).length) : wtv sc (mF μ c k (fo t k)) := by
  have hc : c < 72 := (List.getElem?_eq_some_iff.mp h).1
  have h1 := List.all_eq_true.mp layB_ok c (List.mem_range.mpr hc)
  rw [List.getD_eq_getElem?_getD, h] at h1
  have hb : Nat.blt t 20 = true := by simp [Nat.blt_eq]; omega
  simp only [Option.getD_some, hb, cond_true] at h1
  have h2 := List.all_eq_true.mp h1 k (List.mem_range.mpr hk)
  generalize hy : fo t k = y at h2 ⊢
  obtain ⟨y0, y1, y2⟩ := y
  match y0, h2 with
  | 0, _ => exact trivial
  | 1, _ => exact trivial
  | 2, h2 =>
    simp only [Bool.and_eq_true, decide_eq_true_eq, Nat.blt_eq] at h2
    exact h2
  | 3, h2 =>
    simp only [decide_eq_true_eq] at h2
    exact h2
  | 4, h2 =>
    simp only [decide_eq_true_eq] at h2
    exact ⟨rfl, h2⟩
  | n + 5, h2 => cases h2
theorem tv_mF {ad : Nat → Nat} {b : Nat} {μ : Mm} {c k : Nat} (f : Nat × Nat × Nat) : tv ad b (mF μ c k f) = tv ad 0 (mF μ c k f) := by
  unfold mF
  split <;> rfl
-- the tables' words that every method takes
def lw_g : List Cond := lw_tbl.filter goodWord
theorem mem_g {w : Cond} {i : Nat} (h : lw_tbl[i]? = some w) (hg : goodWord w = true) : w ∈ lw_g := List.mem_filter.mpr ⟨List.mem_of_getElem? h, hg⟩
theorem good_g : ∀ w ∈ lw_g, (w.onTables && w.keeps) = true ∨ ∃ ty, w = .arrayClass ty := fun _ h => good_of_word (List.mem_filter.mp h).2
theorem in_g {ws : List Cond} (h : ws.all (fun w => decide (w ∈ lw_tbl) && goodWord w) = true) : ∀ w ∈ ws, w ∈ lw_g := by
  intro w hw
  have h1 := List.all_eq_true.mp h w hw
  simp only [Bool.and_eq_true, decide_eq_true_eq] at h1
  exact List.mem_filter.mpr h1
-- the classes
def clsOK (ci : Nat) (C : String) (T : u_T) (N : Nat) : Prop := ∃ ty0 : Nat → FieldType, (∀ w ∈ u_ws C T N, w ∈ lw_g) ∧ (∀ k, k < N → parseFieldDescriptor (T k).2.2.1 = some (ty0 k)) ∧ (∀ a, a < N → ∀ b, b < N → a ≠ b → (T a).2.1 ≠ (T b).2.1) ∧ (foL.getD ci []).length = N ∧ ∀ k, k < N → ((fo ci k).1 = 0 → ty0 k = .int ∧ (T k).2.2.2 = false) ∧ ((fo ci k).1 = 1 → ty0 k = .boolean ∧ (T k).2.2.2 = false)
theorem iX0 : ∀ w ∈ wsX00, w ∈ lw_g := in_g (by decide +kernel)
theorem iX1 : ∀ w ∈ wsX10, w ∈ lw_g := in_g (by decide +kernel)
theorem iX2 : ∀ w ∈ wsX20, w ∈ lw_g := in_g (by decide +kernel)
theorem iX3 : ∀ w ∈ wsX30, w ∈ lw_g := in_g (by decide +kernel)
theorem iX4 : ∀ w ∈ wsX40, w ∈ lw_g := in_g (by decide +kernel)
theorem iX6 : ∀ w ∈ wsX60, w ∈ lw_g := in_g (by decide +kernel)
theorem iX7 : ∀ w ∈ wsX70, w ∈ lw_g := in_g (by decide +kernel)
theorem iX8 : ∀ w ∈ wsX80, w ∈ lw_g := in_g (by decide +kernel)
theorem iX9 : ∀ w ∈ wsX90, w ∈ lw_g := in_g (by decide +kernel)
theorem iX10 : ∀ w ∈ wsX100, w ∈ lw_g := in_g (by decide +kernel)
theorem cls_ok : ∀ (ci : Nat) (q : vw_C), vwCl[ci]? = some q → clsOK ci q.1 q.2.1 q.2.2
  | 0, _, rfl => ⟨tyX0, iX0, tyX0_ok, nmX0, rfl, by decide +kernel⟩
  | 1, _, rfl => ⟨tyX1, iX1, tyX1_ok, nmX1, rfl, by decide +kernel⟩
  | 2, _, rfl => ⟨tyX2, iX2, tyX2_ok, nmX2, rfl, by decide +kernel⟩
  | 3, _, rfl => ⟨tyX3, iX3, tyX3_ok, nmX3, rfl, by decide +kernel⟩
  | 4, _, rfl => ⟨tyX4, iX4, tyX4_ok, nmX4, rfl, by decide +kernel⟩
  | 5, _, rfl => ⟨tyX6, iX6, tyX6_ok, nmX6, rfl, by decide +kernel⟩
  | 6, _, rfl => ⟨tyX7, iX7, tyX7_ok, nmX7, rfl, by decide +kernel⟩
  | 7, _, rfl => ⟨tyX8, iX8, tyX8_ok, nmX8, rfl, by decide +kernel⟩
  | 8, _, rfl => ⟨tyX9, iX9, tyX9_ok, nmX9, rfl, by decide +kernel⟩
  | 9, _, rfl => ⟨tyX10, iX10, tyX10_ok, nmX10, rfl, by decide +kernel⟩
  | n + 10, _, h => by simp [vwCl] at h
/-- the two links to a private method of a nest mate -/
def y_within : MethodName := ⟨RX9, "within", "(III)Z"⟩
def nst (U : State) : Prop := va_Nw (.methodLinkNest RX3 40 y_within RX9) U ∧ va_Nw (.methodLinkNest RX8 73 y_within RX9) U
theorem nst.warm {s U : State} (hW : s.WarmedH U.vm) (h : nst s) : nst U := ⟨va_Nw.warmM hW h.1, va_Nw.warmM hW h.2⟩
theorem nst.same {u U : State} (e : u.vm = U.vm) (h : nst u) : nst U := ⟨va_Nw.same rfl e h.1, va_Nw.same rfl e h.2⟩
theorem nst_of {args : Array Value} {s : State} (hts : ∀ w ∈ lw_tbl, w.before args s = true) : nst s := ⟨va_Nw.of rfl (hts _ (by decide +kernel)), va_Nw.of rfl (hts _ (by decide +kernel))⟩
