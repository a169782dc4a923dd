theorem call_must {μ : Mm} (r : Rl μ) (a b : Int32) : s_X9_must [mO 8 0, mI a, mI b] μ (fun v1 μ1 => s_X10_must [mO 9 55, mI a, mI b] μ1 (fun v2 μ2 => Gd v1 v2 μ2)) := by
  refine g_X9_must (c_hasAct ?_)
  rw [vI_mI, ite_b, r.n3]
  cases hb : decide (0 ≤ a ∧ a ≤ nI (nA (vM μ)) - 1) with
  | false =>
    rw [cond_false]
    refine g_X10_must (d_isAct ?_)
    rw [vI_mI, ite_b, r.n55, hb]
    exact ⟨rfl, r⟩
  | true =>
    rw [cond_true]
    refine c_hasAct ?_
    rw [vI_mI, ite_b, r.n3]
    cases hd : decide (0 ≤ b ∧ b ≤ nI (nA (vM μ)) - 1) with
    | false =>
      rw [cond_false]
      refine g_X10_must (d_isAct ?_)
      rw [vI_mI, ite_b, r.n55, hb, cond_true]
      refine d_isAct ?_
      rw [vI_mI, ite_b, r.n55, hd]
      exact ⟨rfl, r⟩
    | true =>
      rw [cond_true]
      obtain ⟨k, hk, rfl⟩ := act_in r.n1 r.n6 hb
      obtain ⟨l, hl, rfl⟩ := act_in r.n1 r.n6 hd
      have h6 := r.n6
      have e3 := r.n3
      have d55 := r.n55
      have pm : Pm (nA (vM μ)) (μ 7) (μ 58) := r.2.2.1
      split
      · rename_i q
        refine g_X10_must (d_isAct ?_)
        rw [vI_mI, ite_b, r.n55, hb, cond_true]
        refine d_isAct ?_
        rw [vI_mI, ite_b, r.n55, hd, cond_true, if_pos q]
        exact ⟨rfl, r⟩
      · rename_i q
        have hne : k ≠ l := fun z => q (by rw [z])
        refine c_isAfter (by omega) ?_
        rw [vI_mI, ite_b]
        cases hx : bb (μ 7 l) k with
        | true =>
          rw [cond_true]
          refine g_X10_must (d_isAct ?_)
          rw [vI_mI, ite_b, r.n55, hb, cond_true]
          refine d_isAct ?_
          rw [vI_mI, ite_b, r.n55, hd, cond_true, if_neg q]
          refine d_isAhead pm (by omega) (by omega) ?_
          rw [vI_mI, ite_b, hx]
          exact ⟨rfl, r⟩
        | false =>
          rw [cond_false]
          refine c_putAfter (n := nA (vM μ)) h6 e3 (by omega) (by omega) ?_
          have e58 : mW μ 7 (Fi (fA (μ 7) k l) (μ 7) (nA (vM μ))) 58 = μ 58 := mW_c (by decide)
          have e55 : mW μ 7 (Fi (fA (μ 7) k l) (μ 7) (nA (vM μ))) 55 = μ 55 := mW_c (by decide)
          refine g_X10_must (d_isAct ?_)
          rw [vI_mI, ite_b, e55, r.n55, hb, cond_true]
          refine d_isAct ?_
          rw [vI_mI, ite_b, e55, r.n55, hd, cond_true, if_neg q]
          refine d_isAhead (n := nA (vM μ)) (f := μ 7) (by rw [e58]; exact pm) (by omega) (by omega) ?_
          rw [vI_mI, ite_b, hx, cond_false, nI_clamp (by omega), e58]
          refine ⟨vi_nI (by omega) (by decide), vi_nI (by omega) (by decide), rfl, ?_⟩
          have hpm : Pm (nA (vM μ)) (Fi (fA (μ 7) k l) (μ 7) (nA (vM μ))) (fun i => if i = k then (μ 58 k ||| ((1 : Int32) <<< (nI l &&& 31))) else μ 58 i) := by
            refine Pm_cg (fun x hx6 => ?_) (fun x hx6 => rfl) (Pm_put pm (a := k) (b := l) (by omega) (by omega) hk hl hne (by rw [hx]; decide))
            unfold Fi
            split
            · rfl
            · rename_i hxn
              show (bif (decide (x = k) || bb (μ 7 x) k) then _ else _) = μ 7 x
              have z1 : decide (x = k) = false := decide_eq_false (by omega)
              have z2 : bb (μ 7 x) k = false := by
                cases hz : bb (μ 7 x) k with
                | false => rfl
                | true =>
                  exfalso
                  obtain ⟨m, p⟩ := (pm.2.2.2.1 x k hx6 (by omega)).mp hz
                  cases m with
                  | zero => exact hxn (pm.2.2.1 x k hx6 (by omega) p).1
                  | succ m =>
                    obtain ⟨z, hz6, e, _⟩ := p
                    exact hxn (pm.2.2.1 x z hx6 hz6 e).1
              rw [z1, z2]
              rfl
          have hm : mS (mW μ 7 (Fi (fA (μ 7) k l) (μ 7) (nA (vM μ)))) 58 k (μ 58 k ||| ((1 : Int32) <<< (nI l &&& 31))) = mW (mW μ 7 (Fi (fA (μ 7) k l) (μ 7) (nA (vM μ)))) 58 (fun i => if i = k then (μ 58 k ||| ((1 : Int32) <<< (nI l &&& 31))) else μ 58 i) := by
            rw [← mW_st (μ := mW μ 7 (Fi (fA (μ 7) k l) (μ 7) (nA (vM μ)))) (c := 58) (i := k) (f := μ 58) (f' := fun i => if i = k then (μ 58 k ||| ((1 : Int32) <<< (nI l &&& 31))) else μ 58 i) (if_pos rfl) (fun j hj => if_neg hj), mW_id e58.symm]
          rw [hm]
          refine Rl_mk ?_ ?_ ?_ ?_ ?_ ?_ ?_ ?_ ?_ ?_ ?_ ?_ ?_ ?_ (r.pi.fr fun c h1 h2 h3 => by simp (disch := omega) only [mS_c, mW_c])
          · unfold F0r; simp (disch := decide) only [mS_c, mW_c]; exact r.f0
          · unfold F1r; simp (disch := decide) only [mS_c, mW_c]; exact r.f1
          · unfold F2r; simp (disch := decide) only [mS_c, mW_c]; exact r.f2
          · unfold F3r; simp (disch := decide) only [mS_c, mW_c]; exact r.f3
          · unfold F4r; simp (disch := decide) only [mS_c, mW_c]; exact r.f4
          · unfold F5r; simp (disch := decide) only [mS_c, mW_c]; exact r.f5
          · unfold F6r; simp (disch := decide) only [mS_c, mW_c]; exact r.f6
          · unfold G1r; simp (disch := decide) only [mS_c, mW_c]; exact r.g1
          · unfold G2r; simp (disch := decide) only [mS_c, mW_c]; exact r.g2
          · unfold G3r; simp (disch := decide) only [mS_c, mW_c]; exact r.g3
          · unfold G4r; simp (disch := decide) only [mS_c, mW_c]; exact r.g4
          · unfold G5r; simp (disch := decide) only [mS_c, mW_c]; exact r.g5
          · unfold Ppr; simp (disch := decide) only [mS_c, mW_c]; exact r.pp
          · unfold Pmr; simp (disch := decide) only [mS_c, mS_eq, mW_c, mW_eq]
            rw [d55, nI_clamp (by omega)]
            exact hpm
