/-! ===== MUST: both sides ===== -/
theorem bb_if {x : Int32} {a : Nat} {A B : Prop} : (if ((x >>> (nI a &&& 31)) &&& 1) = 0 then A else B) = (bif bb x a then B else A) := by
  unfold bb
  rcases and1 (x >>> (nI a &&& 31)) with h | h
  · rw [h]; rfl
  · rw [h]; rfl
theorem c_isAfter {μ : Mm} {K : MV → Mm → Prop} {a b : Nat} (hb : b < 6) (hK : K (mI (bI (bb (μ 7 b) a))) μ) : s_X8_isAfter [mO 7 3, mI (nI a), mI (nI b)] μ K := by
  refine g_X8_isAfter (c_at hb (by decide) ?_)
  rw [vI_mI, show μ (3 + 4) b = μ 7 b from rfl, bb_if]
  cases h : bb (μ 7 b) a with
  | false => rw [h] at hK; exact ⟨zb0, hK⟩
  | true => rw [h] at hK; exact ⟨zb1, hK⟩
theorem c_putAfter {μ : Mm} {K : MV → Mm → Prop} {n a b : Nat} (hn : n ≤ 6) (e0 : μ 3 0 = nI n) (hb : b < 6) (ha : a < 6) (hK : K mU (mW μ 7 (Fi (fA (μ 7) a b) (μ 7) n))) : s_X8_putAfter [mO 7 3, mI (nI b), mI (nI a)] μ K := by
  refine g_X8_putAfter (c_at hb (by decide) ?_)
  rw [vI_mI, show μ (3 + 4) b = μ 7 b from rfl]
  have lp : ∀ (d i : Nat), i + d = n → Tot e_X8_putAfter K 16 [mO 7 3, mI (nI b), mI (nI a), mI (μ 7 b ||| ((1 : Int32) <<< (nI b &&& 31))), mI (nI i)] [] (mW μ 7 (Fi (fA (μ 7) a b) (μ 7) i)) := by
    intro d
    induction d with
    | zero =>
      intro i hi
      have e : i = n := by omega
      subst e
      refine g_X8_putAfter_16 ?_
      rw [mW_c (by decide), e0, if_pos (Int32.le_refl _)]
      exact hK
    | succ d ih =>
      intro i hi
      refine g_X8_putAfter_16 ?_
      rw [mW_c (by decide), e0, if_neg (i_not_le_of_lt (nI_lt (by omega) (by omega)))]
      have er : mW μ 7 (Fi (fA (μ 7) a b) (μ 7) i) 7 i = μ 7 i := by
        rw [mW_eq]
        unfold Fi
        rw [if_neg (by omega)]
      have ih := ih (i + 1) (by omega)
      have hF : fA (μ 7) a b i = bif (decide (i = a) || bb (μ 7 i) a) then μ 7 i ||| (μ 7 b ||| ((1 : Int32) <<< (nI b &&& 31))) else μ 7 i := rfl
      have st : ∀ x, fA (μ 7) a b i = x → mS (mW μ 7 (Fi (fA (μ 7) a b) (μ 7) i)) 7 i x = mW μ 7 (Fi (fA (μ 7) a b) (μ 7) (i + 1)) := fun x e => mW_st (by rw [Fi_at]; exact e) (fun k hk => Fi_ne hk)
      split
      · rename_i q
        have qa : i = a := (nI_eq (by omega) (by omega)).mp q
        rw [decide_eq_true qa, Bool.true_or, cond_true] at hF
        refine c_at (by omega) (by decide) ?_
        rw [vI_mI, show (3 + 4) = 7 from rfl, er]
        refine c_put (by omega) (by decide) ?_
        rw [st _ hF, nI_1]
        exact ih
      · rename_i q
        have qa : ¬ i = a := fun z => q (by rw [z])
        rw [decide_eq_false qa, Bool.false_or] at hF
        refine c_isAfter (by omega) ?_
        rw [er, vI_mI, ite_b]
        cases hx : bb (μ 7 i) a with
        | false =>
          rw [hx, cond_false] at hF
          have e : mW μ 7 (Fi (fA (μ 7) a b) (μ 7) i) = mW μ 7 (Fi (fA (μ 7) a b) (μ 7) (i + 1)) := by
            have := st _ hF
            rw [← this, ← er]; funext c k; unfold mS; split; (rename_i z; rw [z.1, z.2]); rfl
          rw [cond_false, nI_1, e]
          exact ih
        | true =>
          rw [hx, cond_true] at hF
          rw [cond_true]
          refine c_at (by omega) (by decide) ?_
          rw [vI_mI, show (3 + 4) = 7 from rfl, er]
          refine c_put (by omega) (by decide) ?_
          rw [st _ hF, nI_1]
          exact ih
  have := lp n 0 (by omega)
  rw [Fi_0, mW_id rfl] at this
  exact this
