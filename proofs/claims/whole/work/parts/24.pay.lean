/-! ===== payments; a YEAR ===== -/
def oMb (c k : Nat) : Bool := Nat.beq c 55 && Nat.beq k 15
/-- memory agrees but for one number of the reference's -/
def AgO (μ μ' : Mm) : Prop := ∀ c k, oMb c k = false → μ' c k = μ c k
theorem AgO.rf (μ : Mm) : AgO μ μ := fun _ _ _ => rfl
theorem AgO.tr {μ μ' μ'' : Mm} (h : AgO μ μ') (h' : AgO μ' μ'') : AgO μ μ'' := fun c k e => (h' c k e).trans (h c k e)
theorem AgO.st {μ μ' : Mm} (h : AgO μ μ') {c k : Nat} {x : Int32} (e : oMb c k = true) : AgO μ (mS μ' c k x) := fun c' k' e' => by
  rw [mS_ne (fun z => by rw [z.1, z.2, e] at e'; cases e')]
  exact h c' k' e'
theorem AgO.cell {μ μ' : Mm} (h : AgO μ μ') {c : Nat} (e : ∀ k, oMb c k = false) : μ' c = μ c := funext fun k => h c k (e k)
theorem AgO.M {μ μ' : Mm} (h : AgO μ μ') : AgM μ μ' := fun c k e => h c k (by
  cases ho : oMb c k with
  | false => rfl
  | true =>
    unfold oMb at ho
    simp only [Bool.and_eq_true] at ho
    rw [Nat.eq_of_beq_eq_true ho.1, Nat.eq_of_beq_eq_true ho.2] at e
    cases e)
theorem AgO.vM {μ μ' : Mm} (h : AgO μ μ') : vM μ' = vM μ := h.M.vM
section OT
variable {μ : Mm} {K : MV → Mm → Prop}
theorem d_leavesAtO (hw : Wb (vM μ)) (hs : W9 (vM μ)) {g : Nat} (hg : g < 8) (h : ∀ μ', AgO μ μ' → μ' 55 15 = OWN (vM μ) g → K (mI (nI (LV (vM μ) g))) μ') : s_X10_leavesAt [mO 9 55, mI (nI g)] μ K := by
  refine g_X10_leavesAt ?_
  have hn : μ 55 0 = nI (nA (vM μ)) := hw.1.2.2
  have h6 := hw.1.2.1
  have lp : ∀ (d k : Nat) (z : MV) (μ' : Mm), k + d = nA (vM μ) → AgO μ μ' → μ' 55 15 = (lv (vM μ) g k).2 →
      Tot e_X10_leavesAt K 12 [mO 9 55, mI (nI g), mI (nI (lv (vM μ) g k).1), mI (sw (vM μ) g k), mI (nI (k + 1)), z] [] μ' := by
    intro d
    induction d with
    | zero =>
      intro k z μ' hk ha ho
      refine g_X10_leavesAt_12 ?_
      have e : k = nA (vM μ) := by omega
      rw [ha 55 0 rfl, hn, if_pos (nI_lt (by omega) (by omega))]
      rw [e] at ho ⊢
      exact h μ' ha ho
    | succ d ih =>
      intro k z μ' hk ha ho
      refine g_X10_leavesAt_12 ?_
      obtain ⟨w1, w2, w3⟩ := wbM_wp hw hg (j := k) (by omega)
      have e1 : nI (k + 1) - 1 = nI k := nI_pred k
      have e57 : μ' 57 = μ 57 := ha.cell (fun _ => rfl)
      have e56 : μ' 56 = μ 56 := ha.cell (fun _ => rfl)
      have ex : 6 * nI g + nI (oA (vM μ) k) = nI (6 * g + oA (vM μ) k) := by
        rw [show (6 : Int32) * nI g = nI 6 * nI g from rfl, nI_mul, nI_add]
      rw [if_neg (by rw [ha 55 0 rfl, hn]; exact nI_nlt (by omega) (by omega)), e1, nI_clamp (by omega), e57, w3, ex, nI_clamp (by omega), e56, ← w2]
      refine ⟨vi_nI (by omega) (by decide), vi_nI w1 (by decide), ?_⟩
      have hv : vM μ' = vM μ := ha.vM
      refine d_faresOf (by rw [hv]; exact hs) (by omega) ?_
      rw [vI_mI, ho, ha 55 0 rfl, ha 55 2 rfl, ha 55 3 rfl, ha 55 4 rfl]
      have es : sw (vM μ) g k + wp (vM μ) g k = sw (vM μ) g (k + 1) := rfl
      rw [es]
      have hl : lv (vM μ) g (k + 1) = if (lv (vM μ) g k).2 < sw (vM μ) g (k + 1) - fr (μ 55 2) (μ 55 3) (k + 1) ∧ (μ 55 4 = 0 ∨ k + 1 = nA (vM μ)) then (k + 1, sw (vM μ) g (k + 1) - fr (μ 55 2) (μ 55 3) (k + 1)) else lv (vM μ) g k := rfl
      have hlaw : (nI (k + 1) = μ 55 0) ↔ k + 1 = nA (vM μ) := by
        rw [hn, nI_eq (by omega) (by omega)]
      have no : ∀ y : MV, ¬ ((lv (vM μ) g k).2 < sw (vM μ) g (k + 1) - fr (μ 55 2) (μ 55 3) (k + 1) ∧ (μ 55 4 = 0 ∨ k + 1 = nA (vM μ))) → Tot e_X10_leavesAt K 12 [mO 9 55, mI (nI g), mI (nI (lv (vM μ) g k).1), mI (sw (vM μ) g (k + 1)), mI (nI (k + 1) + 1), y] [] μ' := fun y hno => by
        have := ih (k + 1) y μ' (by omega) ha (by rw [hl, if_neg hno]; exact ho)
        rw [hl, if_neg hno, ← nI_1] at this
        exact this
      have yes : ∀ y : MV, ((lv (vM μ) g k).2 < sw (vM μ) g (k + 1) - fr (μ 55 2) (μ 55 3) (k + 1) ∧ (μ 55 4 = 0 ∨ k + 1 = nA (vM μ))) → Tot e_X10_leavesAt K 12 [mO 9 55, mI (nI g), mI (nI (k + 1)), mI (sw (vM μ) g (k + 1)), mI (nI (k + 1) + 1), y] [] (mS μ' 55 15 (sw (vM μ) g (k + 1) - fr (μ 55 2) (μ 55 3) (k + 1))) := fun y hyes => by
        have := ih (k + 1) y (mS μ' 55 15 (sw (vM μ) g (k + 1) - fr (μ 55 2) (μ 55 3) (k + 1))) (by omega) (ha.st rfl) (by rw [mS_eq, hl, if_pos hyes])
        rw [hl, if_pos hyes, ← nI_1 (k + 1)] at this
        exact this
      split
      · rename_i q
        exact no _ (fun z => absurd z.1 (i_not_lt_of_le q))
      · rename_i q
        have q := i_lt_of_not_le q
        split
        · rename_i q2
          exact yes _ ⟨q, Or.inl q2⟩
        · rename_i q2
          split
          · rename_i q3
            exact yes _ ⟨q, Or.inr (hlaw.mp q3)⟩
          · rename_i q3
            exact no _ (fun z => z.2.elim q2 (fun z => q3 (hlaw.mpr z)))
  have := lp (nA (vM μ)) 0 mU (mS μ 55 15 0) (by omega) ((AgO.rf μ).st rfl) mS_eq
  exact this
theorem d_paysOfO (hw : Wb (vM μ)) (hs : W9 (vM μ)) {g : Nat} (hg : g < 8) (h : ∀ μ', AgO μ μ' → K (mI (pay (vM μ) g)) μ') : s_X10_paysOf [mO 9 55, mI (nI g)] μ K := by
  refine g_X10_paysOf (d_leavesAtO hw hs hg fun μ' ha ho => ?_)
  rw [vI_mI]
  refine d_faresOf (by rw [ha.vM]; exact hs) (Nat.le_trans LV_le hw.1.2.1) ?_
  rw [ha 55 3 rfl]
  exact h μ' ha
end OT
theorem shr_and (x y s : Int32) : (x &&& y) >>> s = (x >>> s) &&& (y >>> s) := by
  apply Int32.toBitVec_inj.mp
  rw [Int32.toBitVec_and, Int32.toBitVec_shiftRight, Int32.toBitVec_shiftRight, Int32.toBitVec_shiftRight, Int32.toBitVec_and]
  exact BitVec.sshiftRight_and_distrib _ _ _
theorem bb_and (x y : Int32) (k : Nat) : bb (x &&& y) k = (bb x k && bb y k) := by
  unfold bb
  rw [shr_and]
  generalize x >>> (nI k &&& 31) = a
  generalize y >>> (nI k &&& 31) = b
  have e : (a &&& b) &&& 1 = (a &&& 1) &&& (b &&& 1) := by
    apply Int32.toBitVec_inj.mp
    simp only [Int32.toBitVec_and]
    ext i hi
    simp only [BitVec.getElem_and]
    cases a.toBitVec[i] <;> cases b.toBitVec[i] <;> cases (Int32.toBitVec 1)[i] <;> rfl
  rw [e]
  rcases and1 a with h1 | h1 <;> rcases and1 b with h2 | h2 <;> (rw [h1, h2]; decide)
/-- what a set of guests pays -/
def PB (p : Nat → Int32) (x : Int32) (k : Nat) : Int32 := sumN (fun g => bif bb x g then p g else 0) k
theorem PB_come {v : Vw} {x : Int32} : PB (payC v) (x &&& v 0 1) 8 = PB (payC v) x 8 := sumN_congr 8 fun g hg => by
  rw [bb_and]
  have hc : cmB v (nI g) = bb (v 0 1) g := cmB_8 hg
  cases h1 : bb x g with
  | false => rfl
  | true =>
    cases h2 : bb (v 0 1) g with
    | true => rfl
    | false =>
      show (0 : Int32) = payC v g
      unfold payC
      rw [hc, h2]
      rfl
theorem c_readPay {μ : Mm} {K : MV → Mm → Prop} {c : Nat} (hw : Wb (vS μ c)) (h54 : ∀ d, d ≤ 9 → c + d ≠ 54) (hK : K mU (mW μ 54 (Fi (payC (vS μ c)) (μ 54) 8))) : s_X0_readPayments [mO 0 53, mO 7 c] μ K := by
  refine g_X0_readPayments ?_
  have ev : ∀ f, vS (mW μ 54 f) c = vS μ c := fun f => vS_congr fun d hd => mW_c (h54 d hd)
  have lp : ∀ (d i : Nat), i + d = 8 → Tot e_X0_readPayments K 2 [mO 0 53, mO 7 c, mI (nI i)] [] (mW μ 54 (Fi (payC (vS μ c)) (μ 54) i)) := by
    intro d
    induction d with
    | zero =>
      intro i hi
      have e : i = 8 := by omega
      subst e
      refine g_X0_readPayments_2 ?_
      rw [if_pos (by decide)]
      exact hK
    | succ d ih =>
      intro i hi
      refine g_X0_readPayments_2 ?_
      rw [if_neg (show ¬ (8 : Int32) ≤ nI i from nI_ge (b := 8) (by omega) (by omega))]
      refine c_pays (by rw [ev]; exact hw) (by omega) ?_
      refine c_put (by omega) (by decide) ?_
      have := ih (i + 1) (by omega)
      rw [← nI_1] at this
      rw [vI_mI, ev, mW_st (f' := Fi (payC (vS μ c)) (μ 54) (i + 1)) Fi_at (fun k hk => Fi_ne hk)]
      exact this
  have := lp 8 0 rfl
  rw [Fi_0, mW_id rfl] at this
  exact this
theorem c_paidBy {μ : Mm} {K : MV → Mm → Prop} {p : Nat → Int32} {x : Int32} (hp : ∀ g, g < 8 → μ 54 g = p g) (hK : K (mI (PB p x 8)) μ) : s_X0_paidBy [mO 0 53, mI x] μ K := by
  refine g_X0_paidBy ?_
  have lp : ∀ (d i : Nat), i + d = 8 → Tot e_X0_paidBy K 4 [mO 0 53, mI x, mI (PB p x i), mI (nI i)] [] μ := by
    intro d
    induction d with
    | zero =>
      intro i hi
      have e : i = 8 := by omega
      subst e
      refine g_X0_paidBy_4 ?_
      rw [if_pos (by decide)]
      exact hK
    | succ d ih =>
      intro i hi
      refine g_X0_paidBy_4 ?_
      rw [if_neg (show ¬ (8 : Int32) ≤ nI i from nI_ge (b := 8) (by omega) (by omega))]
      have hs : PB p x (i + 1) = PB p x i + (bif bb x i then p i else 0) := rfl
      have := ih (i + 1) (by omega)
      rw [← nI_1, hs] at this
      split
      · rename_i q
        have hb : bb x i = false := by unfold bb; rw [q]; rfl
        rw [hb, cond_false, Int32.add_zero] at this
        exact this
      · rename_i q
        have hb : bb x i = true := by unfold bb; rw [and1_ne0 q]; rfl
        rw [hb, cond_true] at this
        refine c_at (by omega) (by decide) ?_
        rw [vI_mI, hp i (by omega)]
        exact this
  exact lp 8 0 rfl
theorem d_layPays {μ : Mm} {K : MV → Mm → Prop} (hw : Wb (vM μ)) (h9 : W9 (vM μ)) (hK : ∀ μ', AgM μ μ' → (∀ g, g < 8 → μ' 69 g = payC (vM μ) g) → K mU μ') : s_X10_layPays [mO 9 55] μ K := by
  refine g_X10_layPays ?_
  have lp : ∀ (d i : Nat) (μ' : Mm), i + d = 8 → AgM μ μ' → (∀ g, g < i → μ' 69 g = payC (vM μ) g) → Tot e_X10_layPays K 2 [mO 9 55, mI (nI i)] [] μ' := by
    intro d
    induction d with
    | zero =>
      intro i μ' hi ha hp
      have e : i = 8 := by omega
      subst e
      refine g_X10_layPays_2 ?_
      rw [if_pos (by decide)]
      exact hK μ' ha hp
    | succ d ih =>
      intro i μ' hi ha hp
      refine g_X10_layPays_2 ?_
      rw [if_neg (show ¬ (8 : Int32) ≤ nI i from nI_ge (b := 8) (by omega) (by omega))]
      refine d_has ?_
      have hcm : decide ((μ 55 1 >>> (nI i &&& 31)) &&& 1 = 1) = cmB (vM μ) (nI i) := (cmB_8 (v := vM μ) (by omega)).symm
      have hpc : payC (vM μ) i = bif cmB (vM μ) (nI i) then pay (vM μ) i else 0 := rfl
      rw [vI_mI, ite_b, ha 55 1 rfl, hcm, nI_clamp (by omega)]
      have hvi : vi (nI i) 8 := vi_nI (by omega) (by decide)
      cases hc : cmB (vM μ) (nI i) with
      | false =>
        rw [hc, cond_false] at hpc
        refine ⟨hvi, ?_⟩
        have := ih (i + 1) (mS μ' 69 i 0) (by omega) (ha.st rfl) (fun g hg => by
          by_cases e : g = i
          · rw [e, mS_eq, hpc]
          · rw [mS_k e]; exact hp g (by omega))
        rw [← nI_1] at this
        exact this
      | true =>
        rw [hc, cond_true] at hpc
        rw [cond_true]
        have hv : vM μ' = vM μ := ha.vM
        refine d_paysOfO (by rw [hv]; exact hw) (by rw [hv]; exact h9) (by omega) fun μ2 ha2 => ?_
        have := ih (i + 1) (mS μ2 69 i (pay (vM μ) i)) (by omega) ((ha.tr ha2.M).st rfl) (fun g hg => by
          by_cases e : g = i
          · rw [e, mS_eq, hpc]
          · rw [mS_k e, ha2 69 g rfl]; exact hp g (by omega))
        rw [← nI_1] at this
        rw [vI_mI, hv]
        exact ⟨hvi, this⟩
  exact lp 8 0 μ rfl (AgM.rf μ) (fun g hg => by omega)
theorem d_takenOf {μ : Mm} {K : MV → Mm → Prop} {p : Nat → Int32} {x : Int32} (hp : ∀ g, g < 8 → μ 69 g = p g) (hK : K (mI (PB p (x &&& μ 55 1) 8)) μ) : s_X10_takenOf [mO 9 55, mI x] μ K := by
  refine g_X10_takenOf ?_
  have lp : ∀ (d i : Nat), i + d = 8 → Tot e_X10_takenOf K 4 [mO 9 55, mI x, mI (PB p (x &&& μ 55 1) i), mI (nI i)] [] μ := by
    intro d
    induction d with
    | zero =>
      intro i hi
      have e : i = 8 := by omega
      subst e
      refine g_X10_takenOf_4 ?_
      rw [if_pos (by decide)]
      exact hK
    | succ d ih =>
      intro i hi
      refine g_X10_takenOf_4 ?_
      rw [if_neg (show ¬ (8 : Int32) ≤ nI i from nI_ge (b := 8) (by omega) (by omega))]
      refine d_has ?_
      have hb : decide (((x &&& μ 55 1) >>> (nI i &&& 31)) &&& 1 = 1) = bb (x &&& μ 55 1) i := rfl
      have hs : PB p (x &&& μ 55 1) (i + 1) = PB p (x &&& μ 55 1) i + (bif bb (x &&& μ 55 1) i then p i else 0) := rfl
      have := ih (i + 1) (by omega)
      rw [← nI_1, hs] at this
      rw [vI_mI, ite_b, hb]
      cases hc : bb (x &&& μ 55 1) i with
      | false =>
        rw [hc, cond_false] at this
        exact this
      | true =>
        rw [hc, cond_true] at this
        rw [cond_true, nI_clamp (by omega), hp i (by omega)]
        exact ⟨vi_nI (by omega) (by decide), this⟩
  exact lp 8 0 rfl
/-- a YEAR's evenings: seed, sum, greatest -/
def yr (p : Nat → Int32) (s : Int32) : Nat → Int32 × Int32 × Int32
  | 0 => (s, 0, 0)
  | k + 1 =>
    let q := yr p s k
    let x := 75 * q.1 + 74 - (75 * q.1 + 74) / 65537 * 65537
    let t := PB p (x - x / 256 * 256) 8
    (x, q.2.1 + t, if q.2.2 < t then t else q.2.2)
theorem c_evenings {μ : Mm} {K : MV → Mm → Prop} {p : Nat → Int32} {s w : Int32} {m : Nat} (hm : m < 2 ^ 31) (hp : ∀ g, g < 8 → μ 54 g = p g) (hK : K (mI (if w = 0 then (yr p s m).2.1 else (yr p s m).2.2)) μ) : Tot e_X0_evenings K 17 [mO 0 53, mO 7 3, mI s, mI (nI m), mI w, mI s, mI 0, mI 0, mI 0, mU] [] μ := by
  have lp : ∀ (d i : Nat) (z : MV), i + d = m → Tot e_X0_evenings K 17 [mO 0 53, mO 7 3, mI s, mI (nI m), mI w, mI (yr p s i).1, mI (yr p s i).2.1, mI (yr p s i).2.2, mI (nI i), z] [] μ := by
    intro d
    induction d with
    | zero =>
      intro i z hi
      have e : i = m := by omega
      subst e
      refine g_X0_evenings_17 ?_
      rw [if_pos (nI_le (Nat.le_refl _) (by omega))]
      split
      · rename_i q; rw [if_pos q] at hK; exact hK
      · rename_i q; rw [if_neg q] at hK; exact hK
    | succ d ih =>
      intro i z hi
      refine g_X0_evenings_17 ?_
      rw [if_neg (nI_ge (by omega) (by omega))]
      refine ⟨by decide, by decide, c_paidBy hp ?_⟩
      have := ih (i + 1) (mI (PB p (75 * (yr p s i).1 + 74 - (75 * (yr p s i).1 + 74) / 65537 * 65537 - (75 * (yr p s i).1 + 74 - (75 * (yr p s i).1 + 74) / 65537 * 65537) / 256 * 256) 8)) (by omega)
      rw [← nI_1] at this
      exact this
  exact lp m 0 mU (by omega)
theorem d_year {μ : Mm} {K : MV → Mm → Prop} {s w : Int32} {m : Nat} (hm : m < 2 ^ 31) (hp : ∀ g, g < 8 → μ 69 g = payC (vM μ) g) (hK : K (mI (if w = 0 then (yr (payC (vM μ)) s m).2.1 else (yr (payC (vM μ)) s m).2.2)) μ) : Tot e_X10_year K 49 [mO 9 55, mI s, mI (nI m), mI w, mI s, mI 0, mI 0, mI 0, mU] [] μ := by
  have lp : ∀ (d i : Nat) (z : MV), i + d = m → Tot e_X10_year K 49 [mO 9 55, mI s, mI (nI m), mI w, mI (yr (payC (vM μ)) s i).1, mI (yr (payC (vM μ)) s i).2.1, mI (yr (payC (vM μ)) s i).2.2, mI (nI i), z] [] μ := by
    intro d
    induction d with
    | zero =>
      intro i z hi
      have e : i = m := by omega
      subst e
      refine g_X10_year_49 ?_
      rw [if_pos (nI_le (Nat.le_refl _) (by omega))]
      split
      · rename_i q; rw [if_pos q] at hK; exact hK
      · rename_i q; rw [if_neg q] at hK; exact hK
    | succ d ih =>
      intro i z hi
      refine g_X10_year_49 ?_
      rw [if_neg (nI_ge (by omega) (by omega))]
      refine ⟨by decide, by decide, d_takenOf hp ?_⟩
      have ec : μ 55 1 = vM μ 0 1 := rfl
      rw [ec, PB_come, vI_mI]
      have := ih (i + 1) (mI (PB (payC (vM μ)) (75 * (yr (payC (vM μ)) s i).1 + 74 - (75 * (yr (payC (vM μ)) s i).1 + 74) / 65537 * 65537 - (75 * (yr (payC (vM μ)) s i).1 + 74 - (75 * (yr (payC (vM μ)) s i).1 + 74) / 65537 * 65537) / 256 * 256) 8)) (by omega)
      rw [← nI_1] at this
      have hs : yr (payC (vM μ)) s (i + 1) = (75 * (yr (payC (vM μ)) s i).1 + 74 - (75 * (yr (payC (vM μ)) s i).1 + 74) / 65537 * 65537, (yr (payC (vM μ)) s i).2.1 + PB (payC (vM μ)) (75 * (yr (payC (vM μ)) s i).1 + 74 - (75 * (yr (payC (vM μ)) s i).1 + 74) / 65537 * 65537 - (75 * (yr (payC (vM μ)) s i).1 + 74 - (75 * (yr (payC (vM μ)) s i).1 + 74) / 65537 * 65537) / 256 * 256) 8, if (yr (payC (vM μ)) s i).2.2 < PB (payC (vM μ)) (75 * (yr (payC (vM μ)) s i).1 + 74 - (75 * (yr (payC (vM μ)) s i).1 + 74) / 65537 * 65537 - (75 * (yr (payC (vM μ)) s i).1 + 74 - (75 * (yr (payC (vM μ)) s i).1 + 74) / 65537 * 65537) / 256 * 256) 8 then PB (payC (vM μ)) (75 * (yr (payC (vM μ)) s i).1 + 74 - (75 * (yr (payC (vM μ)) s i).1 + 74) / 65537 * 65537 - (75 * (yr (payC (vM μ)) s i).1 + 74 - (75 * (yr (payC (vM μ)) s i).1 + 74) / 65537 * 65537) / 256 * 256) 8 else (yr (payC (vM μ)) s i).2.2) := rfl
      rw [hs] at this
      split
      · rename_i q
        rw [if_neg (i_not_lt_of_le q)] at this
        exact this
      · rename_i q
        rw [if_pos (i_lt_of_not_le q)] at this
        exact this
  exact lp m 0 mU (by omega)
theorem call_year {μ : Mm} (r : Rl μ) (a b c : Int32) : s_X9_year [mO 8 0, mI a, mI b, mI c] μ (fun v1 μ1 => s_X10_year [mO 9 55, mI a, mI b, mI c] μ1 (fun v2 μ2 => Gd v1 v2 μ2)) := by
  have no : (decide (0 ≤ a ∧ a ≤ 9999) = false ∨ (decide (1 ≤ b ∧ b ≤ 99) = false ∨ decide (0 ≤ c ∧ c ≤ 1) = false)) → s_X10_year [mO 9 55, mI a, mI b, mI c] μ (fun v2 μ2 => Gd (mI (-2)) v2 μ2) := by
    intro h
    refine g_X10_year (d_in ?_)
    rw [vI_mI, ite_b]
    cases ha : decide (0 ≤ a ∧ a ≤ 9999) with
    | false => exact ⟨rfl, r⟩
    | true =>
      have h := h.resolve_left (by rw [ha]; decide)
      rw [cond_true]
      refine d_in ?_
      rw [vI_mI, ite_b]
      cases hb : decide (1 ≤ b ∧ b ≤ 99) with
      | false => exact ⟨rfl, r⟩
      | true =>
        rw [cond_true]
        refine d_in ?_
        rw [vI_mI, ite_b, h.resolve_left (by rw [hb]; decide)]
        exact ⟨rfl, r⟩
  refine g_X9_year (c_within ?_)
  rw [vI_mI, ite_b]
  cases ha : decide (0 ≤ a ∧ a ≤ 9999) with
  | false => exact no (Or.inl ha)
  | true =>
    rw [cond_true]
    refine c_within ?_
    rw [vI_mI, ite_b]
    cases hb : decide (1 ≤ b ∧ b ≤ 99) with
    | false => exact no (Or.inr (Or.inl hb))
    | true =>
      rw [cond_true]
      refine c_within ?_
      rw [vI_mI, ite_b]
      cases hc : decide (0 ≤ c ∧ c ≤ 1) with
      | false => exact no (Or.inr (Or.inr hc))
      | true =>
        rw [cond_true]
        have hb2 := of_decide_eq_true hb
        obtain ⟨m, hm, rfl⟩ := nI_btw (n := 99) (by omega) (Int32.le_trans (by decide) hb2.1) hb2.2
        refine g_X0_evenings (c_readPay r.wbX (by omega) ?_)
        have ha1 : AgX μ (mW μ 54 (Fi (payC (vS μ 3)) (μ 54) 8)) := fun c k e => by rw [mW_c (fun z => by rw [z] at e; cases e)]
        refine c_evenings (p := payC (vM μ)) (by omega) (fun g hg => by rw [mW_eq, Fi_lt hg, r.v]) ?_
        have r2 := ha1.Rl r
        refine g_X10_year (d_in ?_)
        rw [vI_mI, ite_b, ha, cond_true]
        refine d_in ?_
        rw [vI_mI, ite_b, hb, cond_true]
        refine d_in ?_
        rw [vI_mI, ite_b, hc, cond_true]
        refine d_layPays r2.wb r2.w9 fun μ2 ha2 hp2 => ?_
        have ev : vM μ2 = vM μ := ha2.vM.trans ha1.vM
        refine d_year (by omega) (fun g hg => by rw [hp2 g hg, ha2.vM]) ⟨?_, ha2.Rl r2⟩
        rw [ev, vI_mI]
