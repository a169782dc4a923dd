/-! ===== acts; a copy of a Stage ===== -/
def Fi (g f : Nat → Int32) (i : Nat) : Nat → Int32 := fun k => if k < i then g k else f k
theorem Fi_0 {g f : Nat → Int32} : Fi g f 0 = f := by
  funext k
  unfold Fi
  rw [if_neg (by omega)]
theorem Fi_at {g f : Nat → Int32} {i : Nat} : Fi g f (i + 1) i = g i := by
  unfold Fi
  rw [if_pos (by omega)]
theorem Fi_ne {g f : Nat → Int32} {i k : Nat} (h : k ≠ i) : Fi g f (i + 1) k = Fi g f i k := by
  unfold Fi
  by_cases e : k < i
  · rw [if_pos e, if_pos (by omega)]
  · rw [if_neg e, if_neg (by omega)]
theorem Fi_lt {g f : Nat → Int32} {i k : Nat} (h : k < i) : Fi g f i k = g k := if_pos h
theorem mW_mW {μ : Mm} {c : Nat} {f g : Nat → Int32} : mW (mW μ c f) c g = mW μ c g := by
  funext a b
  unfold mW
  split <;> rfl
theorem c_obn {μ : Mm} {K : MV → Mm → Prop} {c : Nat} (hK : K mU (mW μ (c + 1) (Fi nI (μ (c + 1)) 6))) : s_X8_orderByNumbers [mO 7 c] μ K := by
  refine g_X8_orderByNumbers ?_
  have lp : ∀ (d i : Nat), i + d = 6 → Tot e_X8_orderByNumbers K 2 [mO 7 c, mI (nI i)] [] (mW μ (c + 1) (Fi nI (μ (c + 1)) i)) := by
    intro d
    induction d with
    | zero =>
      intro i hi
      have e : i = 6 := by omega
      subst e
      refine g_X8_orderByNumbers_2 ?_
      rw [if_pos (by decide)]
      exact hK
    | succ d ih =>
      intro i hi
      refine g_X8_orderByNumbers_2 ?_
      rw [if_neg (show ¬ (6 : Int32) ≤ nI i from nI_ge (b := 6) (by omega) (by omega))]
      refine c_put (by omega) (by decide) ?_
      have := ih (i + 1) (by omega)
      rw [← nI_1] at this
      rw [mW_st Fi_at (fun k hk => Fi_ne hk)]
      exact this
  have := lp 6 0 rfl
  rw [Fi_0, mW_id rfl] at this
  exact this
def zr : Nat → Int32 := fun _ => 0
theorem c_open {μ : Mm} {K : MV → Mm → Prop} {x : Int32} (hK : K mU (mW (mW (mW (mW (mS (mS (mS μ 3 0 x) 3 5 0) 9 0 0) 4 (Fi nI (μ 4) 6)) 6 (Fi zr (μ 6) 6)) 7 (Fi zr (μ 7) 6)) 8 (Fi zr (μ 8) 8))) : s_X8_openWith [mO 7 3, mI x] μ K := by
  refine g_X8_openWith (c_obn ?_)
  rw [mS_c (c' := 3 + 1) (by decide), mS_c (c' := 3 + 1) (by decide), mS_c (c' := 3 + 1) (by decide)]
  generalize hB : mW (mS (mS (mS μ 3 0 x) 3 5 0) (3 + 6) 0 0) (3 + 1) (Fi nI (μ (3 + 1)) 6) = B
  have h6 : B 6 = μ 6 := by rw [← hB]; simp (disch := decide) only [mS_c, mW_c]
  have h7 : B 7 = μ 7 := by rw [← hB]; simp (disch := decide) only [mS_c, mW_c]
  have h8 : B 8 = μ 8 := by rw [← hB]; simp (disch := decide) only [mS_c, mW_c]
  have hK : K mU (mW (mW (mW B 6 (Fi zr (μ 6) 6)) 7 (Fi zr (μ 7) 6)) 8 (Fi zr (μ 8) 8)) := by rw [← hB]; exact hK
  have l2 : ∀ (d i : Nat), i + d = 8 → Tot e_X8_openWith K 56 [mO 7 3, mI x, mI (nI i)] [] (mW (mW (mW B 6 (Fi zr (μ 6) 6)) 7 (Fi zr (μ 7) 6)) 8 (Fi zr (μ 8) i)) := by
    intro d
    induction d with
    | zero =>
      intro i hi
      have e : i = 8 := by omega
      subst e
      refine g_X8_openWith_56 ?_
      rw [if_pos (by decide)]
      exact hK
    | succ d ih =>
      intro i hi
      refine g_X8_openWith_56 ?_
      rw [if_neg (show ¬ (8 : Int32) ≤ nI i from nI_ge (b := 8) (by omega) (by omega))]
      refine c_put (by omega) (by decide) ?_
      have := ih (i + 1) (by omega)
      rw [← nI_1] at this
      rw [show 3 + 5 = 8 from rfl, mW_st (c := 8) (x := 0) (f' := Fi zr (μ 8) (i + 1)) (show Fi zr (μ 8) (i + 1) i = 0 from Fi_at) (fun k hk => Fi_ne hk)]
      exact this
  have l1 : ∀ (d i : Nat), i + d = 6 → Tot e_X8_openWith K 24 [mO 7 3, mI x, mI (nI i)] [] (mW (mW B 6 (Fi zr (μ 6) i)) 7 (Fi zr (μ 7) i)) := by
    intro d
    induction d with
    | zero =>
      intro i hi
      have e : i = 6 := by omega
      subst e
      refine g_X8_openWith_24 ?_
      rw [if_pos (by decide)]
      have := l2 8 0 rfl
      rw [Fi_0, mW_id (by simp (disch := decide) only [mW_c]; exact h8.symm)] at this
      exact this
    | succ d ih =>
      intro i hi
      refine g_X8_openWith_24 ?_
      rw [if_neg (show ¬ (6 : Int32) ≤ nI i from nI_ge (b := 6) (by omega) (by omega))]
      refine c_put (by omega) (by decide) ?_
      refine c_put (by omega) (by decide) ?_
      have := ih (i + 1) (by omega)
      rw [← nI_1] at this
      rw [show 3 + 3 = 6 from rfl, show 3 + 4 = 7 from rfl, mW_mS (c := 7) (c' := 6) (by decide), mW_st (c := 6) (x := 0) (f' := Fi zr (μ 6) (i + 1)) (show Fi zr (μ 6) (i + 1) i = 0 from Fi_at) (fun k hk => Fi_ne hk), mW_st (c := 7) (x := 0) (f' := Fi zr (μ 7) (i + 1)) (show Fi zr (μ 7) (i + 1) i = 0 from Fi_at) (fun k hk => Fi_ne hk)]
      exact this
  have := l1 6 0 rfl
  rw [Fi_0, Fi_0, mW_id h6.symm, mW_id h7.symm] at this
  exact this
theorem d_plain {μ : Mm} {K : MV → Mm → Prop} (hK : K mU (mW (mW (mW (mW (mS (mS μ 55 1 0) 55 11 0) 57 (Fi nI (μ 57) 6)) 58 (Fi zr (μ 58) 6)) 59 (Fi zr (μ 59) 6)) 60 (Fi zr (μ 60) 8))) : s_X10_plain [mO 9 55] μ K := by
  refine g_X10_plain ?_
  generalize hB : mS (mS μ 55 1 0) 55 11 0 = B at hK ⊢
  have h57 : B 57 = μ 57 := by rw [← hB]; simp (disch := decide) only [mS_c]
  have h58 : B 58 = μ 58 := by rw [← hB]; simp (disch := decide) only [mS_c]
  have h59 : B 59 = μ 59 := by rw [← hB]; simp (disch := decide) only [mS_c]
  have h60 : B 60 = μ 60 := by rw [← hB]; simp (disch := decide) only [mS_c]
  have l2 : ∀ (d i : Nat), i + d = 8 → Tot e_X10_plain K 47 [mO 9 55, mI (nI i)] [] (mW (mW (mW (mW B 57 (Fi nI (μ 57) 6)) 58 (Fi zr (μ 58) 6)) 59 (Fi zr (μ 59) 6)) 60 (Fi zr (μ 60) i)) := by
    intro d
    induction d with
    | zero =>
      intro i hi
      have e : i = 8 := by omega
      subst e
      refine g_X10_plain_47 ?_
      rw [if_pos (by decide)]
      exact hK
    | succ d ih =>
      intro i hi
      refine g_X10_plain_47 ?_
      rw [if_neg (show ¬ (8 : Int32) ≤ nI i from nI_ge (b := 8) (by omega) (by omega)), nI_clamp (by omega)]
      refine ⟨vi_nI (by omega) (by decide), ?_⟩
      have := ih (i + 1) (by omega)
      rw [← nI_1] at this
      rw [mW_st (c := 60) (x := 0) (f' := Fi zr (μ 60) (i + 1)) (show Fi zr (μ 60) (i + 1) i = 0 from Fi_at) (fun k hk => Fi_ne hk)]
      exact this
  have l1 : ∀ (d i : Nat), i + d = 6 → Tot e_X10_plain K 12 [mO 9 55, mI (nI i)] [] (mW (mW (mW B 57 (Fi nI (μ 57) i)) 58 (Fi zr (μ 58) i)) 59 (Fi zr (μ 59) i)) := by
    intro d
    induction d with
    | zero =>
      intro i hi
      have e : i = 6 := by omega
      subst e
      refine g_X10_plain_12 ?_
      rw [if_pos (by decide)]
      have := l2 8 0 rfl
      rw [Fi_0, mW_id (by simp (disch := decide) only [mW_c]; exact h60.symm)] at this
      exact this
    | succ d ih =>
      intro i hi
      refine g_X10_plain_12 ?_
      rw [if_neg (show ¬ (6 : Int32) ≤ nI i from nI_ge (b := 6) (by omega) (by omega)), nI_clamp (by omega)]
      have hv : vi (nI i) 6 := vi_nI (by omega) (by decide)
      refine ⟨hv, hv, hv, ?_⟩
      have := ih (i + 1) (by omega)
      rw [← nI_1] at this
      rw [mW_mS (c := 59) (c' := 57) (by decide), mW_mS (c := 58) (c' := 57) (by decide), mW_mS (c := 59) (c' := 58) (by decide), mW_st (c := 57) (f' := Fi nI (μ 57) (i + 1)) Fi_at (fun k hk => Fi_ne hk), mW_st (c := 58) (x := 0) (f' := Fi zr (μ 58) (i + 1)) (show Fi zr (μ 58) (i + 1) i = 0 from Fi_at) (fun k hk => Fi_ne hk), mW_st (c := 59) (x := 0) (f' := Fi zr (μ 59) (i + 1)) (show Fi zr (μ 59) (i + 1) i = 0 from Fi_at) (fun k hk => Fi_ne hk)]
      exact this
  have := l1 6 0 rfl
  rw [Fi_0, Fi_0, Fi_0, mW_id h57.symm, mW_id h58.symm, mW_id h59.symm] at this
  exact this
theorem bb0 {k : Nat} : bb 0 k = false := by
  unfold bb
  have : ((0 : Int32) >>> (nI k &&& 31)) &&& 1 = 0 := by
    rw [Int32.zero_shiftRight]
    rfl
  rw [this]
  rfl
theorem Pm_0 {n : Nat} {f g : Nat → Int32} (hf : ∀ x, x < 6 → f x = 0) (hg : ∀ x, x < 6 → g x = 0) : Pm n f g := by
  refine ⟨fun x hx => ⟨0, by omega, hf x hx⟩, fun x hx => ⟨0, by omega, hg x hx⟩, fun x y hx hy h => ?_, fun x y hx hy => ⟨fun h => ?_, fun ⟨m, h⟩ => ?_⟩, fun x hx => by rw [hf x hx]; exact bb0⟩
  · rw [hg x hx, bb0] at h; cases h
  · rw [hf x hx, bb0] at h; cases h
  · exfalso
    cases m with
    | zero =>
      have h : bb (g x) y = true := h
      rw [hg x hx, bb0] at h; cases h
    | succ m =>
      obtain ⟨z, hz, h1, h2⟩ := h
      rw [hg x hx, bb0] at h1; cases h1
theorem call_acts {μ : Mm} (r : Rl μ) (a : Int32) : s_X9_acts [mO 8 0, mI a] μ (fun v1 μ1 => s_X10_acts [mO 9 55, mI a] μ1 (fun v2 μ2 => Gd v1 v2 μ2)) := by
  refine g_X9_acts (c_within ?_)
  rw [vI_mI, ite_b]
  cases hd : decide (1 ≤ a ∧ a ≤ 6) with
  | false =>
    refine g_X10_acts (d_in ?_)
    rw [vI_mI, ite_b, hd]
    exact ⟨rfl, r⟩
  | true =>
    have hd2 := of_decide_eq_true hd
    obtain ⟨n, hn, rfl⟩ := nI_btw (n := 6) (by omega) (Int32.le_trans (by decide) hd2.1) hd2.2
    have hn1 : 1 ≤ n := (nI_leI (a := 1) (by omega) (by omega)).mp hd2.1
    rw [cond_true]
    refine c_open ?_
    refine g_X10_acts (d_in ?_)
    rw [vI_mI, ite_b, hd, cond_true]
    refine d_plain ⟨?_, ?_⟩
    · simp (disch := decide) only [mS_c, mS_k, mS_eq, mW_c, mW_eq]
      rw [r.s0]
    · rw [show (mS (mW (mW (mW (mW (mS (mS (mS μ 3 0 (nI n)) 3 5 0) 9 0 0) 4 (Fi nI (μ 4) 6)) 6 (Fi zr (μ 6) 6)) 7 (Fi zr (μ 7) 6)) 8 (Fi zr (μ 8) 8)) 55 0 (nI n)) 57 = μ 57 by simp (disch := decide) only [mS_c, mS_k, mS_eq, mW_c, mW_eq]]
      refine Rl_mk ?_ ?_ ?_ ?_ ?_ ?_ ?_ ?_ ?_ ?_ ?_ ?_ ?_ ?_ (r.pi.fr fun c h1 h2 h3 => by simp (disch := omega) only [mS_c, mW_c])
      · unfold F0r; simp (disch := decide) only [mS_c, mS_k, mS_eq, mW_c, mW_eq]; exact ⟨n, hn1, hn, rfl, rfl⟩
      · unfold F1r; simp (disch := decide) only [mS_c, mS_k, mS_eq, mW_c, mW_eq]; exact ⟨0, by omega, rfl, rfl⟩
      · unfold F2r; simp (disch := decide) only [mS_c, mS_k, mS_eq, mW_c, mW_eq]; exact r.f2
      · unfold F3r; simp (disch := decide) only [mS_c, mS_k, mS_eq, mW_c, mW_eq]; exact r.f3
      · unfold F4r; simp (disch := decide) only [mS_c, mS_k, mS_eq, mW_c, mW_eq]; exact r.f4
      · unfold F5r; simp (disch := decide) only [mS_c, mS_k, mS_eq, mW_c, mW_eq]; exact r.f5
      · unfold F6r; simp (disch := decide) only [mS_c, mS_k, mS_eq, mW_c, mW_eq]; exact ⟨0, by omega, rfl, rfl⟩
      · unfold G1r; simp (disch := decide) only [mS_c, mS_k, mS_eq, mW_c, mW_eq]; exact r.g1
      · unfold G2r; simp (disch := decide) only [mS_c, mS_k, mS_eq, mW_c, mW_eq]; exact fun j hj => ⟨j, hj, by rw [Fi_lt hj], by rw [Fi_lt hj]⟩
      · unfold G3r; simp (disch := decide) only [mS_c, mS_k, mS_eq, mW_c, mW_eq]; exact fun j hj => by rw [Fi_lt hj, Fi_lt hj]
      · unfold G4r; simp (disch := decide) only [mS_c, mS_k, mS_eq, mW_c, mW_eq]
        refine ⟨fun j hj => by rw [Fi_lt hj, Fi_lt hj], fun g hg => ⟨0, by omega, Fi_lt hg⟩, fun g h hg hh => ?_, fun g hg => ?_⟩
        · rw [Fi_lt hg, Fi_lt hh]
          show bb 0 h = bb 0 g
          rw [bb0, bb0]
        · rw [Fi_lt hg]
          exact bb0
      · unfold G5r; simp (disch := decide) only [mS_c, mS_k, mS_eq, mW_c, mW_eq]; exact r.g5
      · unfold Ppr; simp (disch := decide) only [mS_c, mS_k, mS_eq, mW_c, mW_eq]; exact r.pp
      · unfold Pmr; simp (disch := decide) only [mS_c, mS_k, mS_eq, mW_c, mW_eq]; exact Pm_0 (fun x hx => Fi_lt hx) (fun x hx => Fi_lt hx)
theorem c_copy {μ : Mm} {K : MV → Mm → Prop} {n a b : Nat} (hab : a ≠ b) (hn : n < 2 ^ 31) (hK : K mU (mW μ b (Fi (μ a) (μ b) n))) : s_X5_copy [mA n a, mA n b] μ K := by
  refine g_X5_copy ?_
  have lp : ∀ (d i : Nat), i + d = n → Tot e_X5_copy K 11 [mA n a, mA n b, mI (nI i)] [] (mW μ b (Fi (μ a) (μ b) i)) := by
    intro d
    induction d with
    | zero =>
      intro i hi
      have e : i = n := by omega
      subst e
      refine g_X5_copy_11 ?_
      rw [if_pos (nI_le (Nat.le_refl _) hn)]
      exact hK
    | succ d ih =>
      intro i hi
      refine g_X5_copy_11 ?_
      rw [if_neg (nI_ge (by omega) hn), if_neg (nI_ge (by omega) hn), nI_clamp (by omega), mW_c (c' := a) hab]
      refine ⟨vi_nI (by omega) hn, vi_nI (by omega) hn, ?_⟩
      have := ih (i + 1) (by omega)
      rw [← nI_1] at this
      rw [mW_st (f' := Fi (μ a) (μ b) (i + 1)) Fi_at (fun k hk => Fi_ne hk)]
      exact this
  have := lp n 0 (by omega)
  rw [Fi_0, mW_id rfl] at this
  exact this
theorem c_copyFrom {μ : Mm} {K : MV → Mm → Prop} {a b : Nat} (hab : a + 9 < b ∨ b + 9 < a) (hK : ∀ μ', (∀ c, ¬ (a ≤ c ∧ c ≤ a + 9) → μ' c = μ c) → vS μ' a = vS μ b → (∀ i, i < 6 → μ' (a + 4) i = μ (b + 4) i) → K mU μ') : s_X8_copyFrom [mO 7 a, mO 7 b] μ K := by
  refine g_X8_copyFrom ?_
  refine c_copy (by omega) (by decide) (c_copy (by omega) (by decide) (c_copy (by omega) (by decide) (c_copy (by omega) (by decide) (c_copy (by omega) (by decide) (g_X7_copyFrom (c_copy (by omega) (by decide) (c_copy (by omega) (by decide) (c_copy (by omega) (by decide) ?_))))))))
  simp (disch := omega) only [mS_c, mS_k, mS_eq, mW_c, mW_eq]
  refine hK _ (fun c hc => ?_) ?_ (fun i hi => ?_)
  · simp (disch := omega) only [mS_c, mW_c]
  · funext r i
    match r with
    | 0 =>
      match i with
      | 0 => show _ = μ b 0; unfold vS; simp (disch := omega) only [mS_c, mS_k, mS_eq, mW_c, mW_eq]
      | 1 => show _ = μ b 5; unfold vS; simp (disch := omega) only [mS_c, mS_k, mS_eq, mW_c, mW_eq]
      | 2 => show _ = μ b 1; unfold vS; simp (disch := omega) only [mS_c, mS_k, mS_eq, mW_c, mW_eq]
      | 3 => show _ = μ b 2; unfold vS; simp (disch := omega) only [mS_c, mS_k, mS_eq, mW_c, mW_eq]
      | 4 => show _ = μ b 3; unfold vS; simp (disch := omega) only [mS_c, mS_k, mS_eq, mW_c, mW_eq]
      | 5 => show _ = μ b 4; unfold vS; simp (disch := omega) only [mS_c, mS_k, mS_eq, mW_c, mW_eq]
      | 6 => show _ = μ (b + 6) 0; unfold vS; simp (disch := omega) only [mS_c, mS_k, mS_eq, mW_c, mW_eq]
      | i + 7 => rfl
    | 1 => exact congrFun (tr_eq (g := μ (b + 2)) fun j hj => by simp (disch := omega) only [mS_c, mS_k, mS_eq, mW_c, mW_eq, Fi_lt]) i
    | 2 => exact congrFun (tr_eq (g := μ (b + 1)) fun j hj => by simp (disch := omega) only [mS_c, mS_k, mS_eq, mW_c, mW_eq, Fi_lt]) i
    | 3 => exact congrFun (tr_eq (g := μ (b + 3)) fun j hj => by simp (disch := omega) only [mS_c, mS_k, mS_eq, mW_c, mW_eq, Fi_lt]) i
    | 4 => exact congrFun (tr_eq (g := μ (b + 5)) fun j hj => by simp (disch := omega) only [mS_c, mS_k, mS_eq, mW_c, mW_eq, Fi_lt]) i
    | 5 => exact congrFun (tr_eq (g := μ (b + 7)) fun j hj => by simp (disch := omega) only [mS_c, mS_k, mS_eq, mW_c, mW_eq, Fi_lt]) i
    | 6 => exact congrFun (tr_eq (g := μ (b + 8)) fun j hj => by simp (disch := omega) only [mS_c, mS_k, mS_eq, mW_c, mW_eq, Fi_lt]) i
    | 7 => exact congrFun (tr_eq (g := μ (b + 9)) fun j hj => by simp (disch := omega) only [mS_c, mS_k, mS_eq, mW_c, mW_eq, Fi_lt]) i
    | r + 8 => rfl
  · simp (disch := omega) only [mS_c, mS_k, mS_eq, mW_c, mW_eq, Fi_lt]
theorem c_tried {μ : Mm} {K : MV → Mm → Prop} (hK : ∀ μ', AgX μ μ' → vS μ' 13 = vS μ 3 → (∀ i, i < 6 → μ' 17 i = μ 7 i) → K (mO 7 13) μ') : s_X9_tried [mO 8 0] μ K := by
  refine g_X9_tried (c_copyFrom (by omega) fun μ' h1 h2 h3 => hK μ' (fun c k e => ?_) h2 h3)
  rw [h1 c (fun z => ?_)]
  unfold sXb at e
  have e1 : Nat.ble 13 c = true := Nat.ble_eq.mpr z.1
  have e2 : Nat.ble c 22 = true := Nat.ble_eq.mpr (by omega)
  rw [e1, e2] at e
  cases e
