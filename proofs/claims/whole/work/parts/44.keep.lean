/-! ===== ORDER: TAKINGS by a row, which rows keep MUST ===== -/
def rg (r : List Nat) (k : Nat) : Nat := r.getD k 0
theorem rzl_get {f : Nat → Nat} : ∀ (m a k : Nat), k < m → rg (rzl f a m) k = f (a + k)
  | 0, _, k, h => absurd h (Nat.not_lt_zero k)
  | m + 1, a, 0, _ => rfl
  | m + 1, a, k + 1, h => by
    have := rzl_get (f := f) m (a + 1) k (by omega)
    rw [show a + (k + 1) = a + 1 + k by omega, ← this]
    rfl
theorem rz_form : ∀ (s : List Nat), rzl (rg s) 0 s.length = s
  | [] => rfl
  | x :: s => by
    show rg (x :: s) 0 :: rzl (rg (x :: s)) (0 + 1) s.length = x :: s
    rw [rzl_sh]
    have h : (fun k => rg (x :: s) (k + 1)) = rg s := rfl
    rw [h, rz_form s]
    rfl
theorem rz_prm {n : Nat} {s : List Nat} (h : s.Perm (List.range n)) : rzP n (rg s) ∧ rzl (rg s) 0 n = s := by
  have hl : s.length = n := by rw [h.length_eq, List.length_range]
  have e : rzl (rg s) 0 n = s := by rw [← hl]; exact rz_form s
  refine ⟨?_, e⟩
  unfold rzP
  rw [e]
  exact h
theorem lv_cg {v w : Vw} (h0 : v 0 = w 0) (h1 : v 1 = w 1) (h2 : ∀ j, j < nA v → v 2 j = w 2 j) {g : Nat} : ∀ k, k ≤ nA v → lv v g k = lv w g k
  | 0, _ => rfl
  | k + 1, hk => by
    have hn : nA w = nA v := by unfold nA; rw [h0]
    have hs : sw v g (k + 1) = sw w g (k + 1) := sumN_congr _ fun j hj => by
      unfold wp oA
      rw [h1, h2 j (by omega)]
    unfold lv
    rw [lv_cg h0 h1 h2 k (by omega), hs, h0, hn]
theorem TK_cg {v w : Vw} (h0 : v 0 = w 0) (h1 : v 1 = w 1) (h2 : ∀ j, j < nA v → v 2 j = w 2 j) : TK v = TK w := by
  have hn : nA w = nA v := by unfold nA; rw [h0]
  refine sumN_congr 8 fun g hg => ?_
  have hc : cmB v (nI g) = cmB w (nI g) := by unfold cmB; rw [h0]
  unfold payC
  rw [hc]
  unfold pay LV
  rw [lv_cg h0 h1 h2 (nA v) (Nat.le_refl _), h0, hn]
/-- a view with another order -/
def ovw (v : Vw) (s : List Nat) : Vw := fun r => if r = 2 then (fun j => if j < nA v then nI (rg s j) else v 2 j) else v r
def TO (v : Vw) (s : List Nat) : Int32 := TK (ovw v s)
theorem ovw_wb {v : Vw} (hw : Wb v) {s : List Nat} (hs : s.Perm (List.range (nA v))) : Wb (ovw v s) := by
  obtain ⟨hp, -⟩ := rz_prm hs
  have h6 := hw.1.2.1
  refine ⟨hw.1, fun j hj => ?_⟩
  have e2 : ovw v s 2 j = if j < nA v then nI (rg s j) else v 2 j := rfl
  by_cases h : j < nA v
  · have hr := hp.lt h
    rw [if_pos h] at e2
    have eo : oA (ovw v s) j = rg s j := by
      show (ovw v s 2 j).toNatClampNeg = _
      rw [e2, nI_clamp (by omega)]
    rw [eo]
    exact ⟨by omega, e2⟩
  · rw [if_neg h] at e2
    have eo : oA (ovw v s) j = oA v j := by
      show (ovw v s 2 j).toNatClampNeg = _
      rw [e2]
      rfl
    rw [eo, e2]
    exact hw.2 j hj
theorem TO_nn {v : Vw} (hw : Wb v) {s : List Nat} (hs : s.Perm (List.range (nA v))) {b t : Nat} (hb : b ≤ 30) (ht : t ≤ 9) (eb : v 0 2 = nI b) (es : v 0 3 = nI t) : ∃ k, k ≤ 3200 ∧ TO v s = nI k := TK_nn (v := ovw v s) (ovw_wb hw hs) hb ht eb es
def VO (v : Vw) (s : List Nat) : Int := - (TO v s).toInt
/-! MUST -/
def okF (n : Nat) (F : Nat → Int32) (f : Nat → Nat) : Prop := ∀ j, j < n → ∀ i, i < j → bb (F (f j)) (f i) = false
def okG (n : Nat) (G : Nat → Int32) (f : Nat → Nat) : Prop := ∀ j, j < n → ∀ i, i ≤ j → bb (G (f j)) (f i) = false
def okC (n : Nat) (F : Nat → Int32) (s : List Nat) : Prop := okF n F (rg s)
theorem okC_l {n : Nat} {F : Nat → Int32} {f : Nat → Nat} : okC n F (rzl f 0 n) ↔ okF n F f := by
  have e : ∀ k, k < n → rg (rzl f 0 n) k = f k := fun k hk => by rw [rzl_get n 0 k hk, Nat.zero_add]
  unfold okC okF
  constructor
  · intro h j hj i hi
    rw [← e j hj, ← e i (by omega)]
    exact h j hj i hi
  · intro h j hj i hi
    rw [e j hj, e i (by omega)]
    exact h j hj i hi
theorem ok_pth {n : Nat} {F G : Nat → Int32} (hn : n ≤ 6) (pm : Pm n F G) {f : Nat → Nat} (hp : rzP n f) (hg : okG n G f) : ∀ (m a b : Nat), a < n → b < n → pth G m (f a) (f b) → a < b
  | 0, a, b, ha, hb, p => by
    have p : bb (G (f a)) (f b) = true := p
    rcases Nat.lt_or_ge a b with q | q
    · exact q
    · have := hg a ha b q
      rw [p] at this
      cases this
  | m + 1, a, b, ha, hb, ⟨z, hz, e, p⟩ => by
    have h1 := (pm.2.2.1 (f a) z (by have := hp.lt ha; omega) hz e).2
    obtain ⟨c, hc, rfl⟩ := hp.ex h1
    have h2 := ok_pth hn pm hp hg m c b hc hb p
    rcases Nat.lt_or_ge a c with q | q
    · omega
    · have := hg a ha c q
      rw [e] at this
      cases this
theorem ok_iff {n : Nat} {F G : Nat → Int32} (hn : n ≤ 6) (pm : Pm n F G) {f : Nat → Nat} (hp : rzP n f) : okF n F f ↔ okG n G f := by
  have h6 : ∀ k, k < n → f k < 6 := fun k hk => by have := hp.lt hk; omega
  constructor
  · intro h j hj i hi
    cases hb : bb (G (f j)) (f i) with
    | false => rfl
    | true =>
      have hF : bb (F (f j)) (f i) = true := (pm.2.2.2.1 _ _ (h6 j hj) (h6 i (by omega))).mpr ⟨0, hb⟩
      by_cases e : i = j
      · rw [e, pm.2.2.2.2 _ (h6 j hj)] at hF
        cases hF
      · rw [h j hj i (by omega)] at hF
        cases hF
  · intro h j hj i hi
    cases hb : bb (F (f j)) (f i) with
    | false => rfl
    | true =>
      obtain ⟨m, p⟩ := (pm.2.2.2.1 _ _ (h6 j hj) (h6 i (by omega))).mp hb
      have := ok_pth hn pm hp h m j i hj (by omega) p
      omega
/-- some row keeps MUST -/
theorem ok_some {n : Nat} {F G : Nat → Int32} (hn : n ≤ 6) (pm : Pm n F G) : ∃ s : List Nat, s.Perm (List.range n) ∧ okC n F s := by
  have hs : ((List.range n).mergeSort (fun x y => decide (cnt (F y) 6 ≤ cnt (F x) 6))).Perm (List.range n) := List.mergeSort_perm _ _
  have hw : ((List.range n).mergeSort (fun x y => decide (cnt (F y) 6 ≤ cnt (F x) 6))).Pairwise (fun x y => decide (cnt (F y) 6 ≤ cnt (F x) 6) = true) := by
    refine List.pairwise_mergeSort (fun a b c h1 h2 => ?_) (fun a b => ?_) _
    · have := of_decide_eq_true h1
      have := of_decide_eq_true h2
      exact decide_eq_true (by omega)
    · rw [Bool.or_eq_true, decide_eq_true_eq, decide_eq_true_eq]
      omega
  generalize (List.range n).mergeSort (fun x y => decide (cnt (F y) 6 ≤ cnt (F x) 6)) = s at hs hw
  refine ⟨s, hs, ?_⟩
  obtain ⟨hp, e⟩ := rz_prm hs
  rw [← e] at hw
  have h6 : ∀ k, k < n → rg s k < 6 := fun k hk => by have := hp.lt hk; omega
  intro j hj i hi
  cases hb : bb (F (rg s j)) (rg s i) with
  | false => rfl
  | true =>
    have h1 := of_decide_eq_true ((rzl_pw n 0).mp hw i j (Nat.zero_le _) hi (by omega))
    have h2 : cnt (F (rg s i)) 6 < cnt (F (rg s j)) 6 := cnt_lt (z := rg s i) (by rw [pm.2.2.2.2 _ (h6 i (by omega))]; decide) hb 6 (h6 i (by omega)) (fun w hw6 q => by
      obtain ⟨m1, p1⟩ := (pm.2.2.2.1 _ _ (h6 j hj) (h6 i (by omega))).mp hb
      obtain ⟨m2, p2⟩ := (pm.2.2.2.1 _ w (h6 i (by omega)) hw6).mp q
      obtain ⟨m3, p3⟩ := pth_tr (h6 i (by omega)) m1 m2 _ p1 p2
      exact (pm.2.2.2.1 _ w (h6 j hj) hw6).mpr ⟨m3, p3⟩)
    omega
theorem and64 : ∀ a, a < 64 → ∀ b, b < 64 → (nI a &&& nI b = 0 ↔ ∀ y, y < 6 → ¬ (bb (nI a) y = true ∧ bb (nI b) y = true)) := by decide +kernel
/-- a set holds the first k of a row -/
def see (f : Nat → Nat) (k p : Nat) : Prop := p < 64 ∧ ∀ y, y < 6 → (bb (nI p) y = true ↔ ∃ i, i < k ∧ f i = y)
theorem see_0 {f : Nat → Nat} : see f 0 0 := ⟨by decide, fun y hy => ⟨fun h => (by rw [show nI 0 = 0 from rfl, bb0] at h; cases h), fun ⟨i, hi, _⟩ => absurd hi (Nat.not_lt_zero i)⟩⟩
theorem see_1 {f : Nat → Nat} {k p : Nat} (h : see f k p) (hk : f k < 6) : nI p ||| ((1 : Int32) <<< (nI (f k) &&& 31)) = nI (p ||| 2 ^ f k) ∧ see f (k + 1) (p ||| 2 ^ f k) := by
  obtain ⟨b1, b2, b3⟩ := bit64 (f k) hk
  obtain ⟨o1, o2, o3⟩ := or64 p h.1 (2 ^ f k) b1
  refine ⟨by rw [b2, o2], o1, fun y hy => ?_⟩
  rw [o3 y hy, b3 y hy, Bool.or_eq_true, h.2 y hy, decide_eq_true_eq]
  constructor
  · intro q
    rcases q with ⟨i, hi, e⟩ | e
    · exact ⟨i, by omega, e⟩
    · exact ⟨k, by omega, e.symm⟩
  · intro ⟨i, hi, e⟩
    by_cases q : i = k
    · right; rw [← e, q]
    · left; exact ⟨i, by omega, e⟩
theorem see_and {f : Nat → Nat} {k p a : Nat} (h : see f k p) (ha : a < 64) (h6 : ∀ i, i < k → f i < 6) : nI a &&& nI p = 0 ↔ ∀ i, i < k → bb (nI a) (f i) = false := by
  rw [and64 a ha p h.1]
  constructor
  · intro q i hi
    have := q (f i) (h6 i hi)
    rw [h.2 (f i) (h6 i hi)] at this
    cases hb : bb (nI a) (f i) with
    | false => rfl
    | true => exact absurd ⟨hb, i, hi, rfl⟩ this
  · intro q y hy ⟨z1, z2⟩
    obtain ⟨i, hi, rfl⟩ := (h.2 y hy).mp z2
    rw [q i hi] at z1
    cases z1
section KM
variable {μ : Mm} {K : MV → Mm → Prop}
theorem c_keepsMust {c n : Nat} {F : Nat → Int32} {f : Nat → Nat} (hn : n ≤ 6) (hp : rzP n f) (e0 : μ c 0 = nI n) (e1 : ∀ k, k < n → μ (c + 1) k = nI (f k)) (e4 : ∀ k, k < 6 → μ (c + 4) k = F k) (hF : ∀ x, x < 6 → ∃ k, k < 64 ∧ F x = nI k) (h1 : okF n F f → K (mI 1) μ) (h0 : ¬ okF n F f → K (mI 0) μ) : s_X8_keepsMust [mO 7 c] μ K := by
  have h6 : ∀ k, k < n → f k < 6 := fun k hk => by have := hp.lt hk; omega
  refine g_X8_keepsMust ?_
  have lp : ∀ (d k p : Nat) (z : MV), k + d = n → see f k p → (∀ j, j < k → ∀ i, i < j → bb (F (f j)) (f i) = false) → Tot e_X8_keepsMust K 4 [mO 7 c, mI (nI p), mI (nI k), z] [] μ := by
    intro d
    induction d with
    | zero =>
      intro k p z hk hs ho
      refine g_X8_keepsMust_4 ?_
      rw [e0, if_pos (nI_le (by omega) (by omega))]
      exact ⟨zb1, h1 (fun j hj i hi => ho j (by omega) i hi)⟩
    | succ d ih =>
      intro k p z hk hs ho
      refine g_X8_keepsMust_4 ?_
      rw [e0, if_neg (nI_ge (by omega) (by omega))]
      refine c_at (by omega) (by decide) ?_
      rw [vI_mI, e1 k (by omega)]
      refine c_at (h6 k (by omega)) (by decide) ?_
      rw [vI_mI, e4 _ (h6 k (by omega))]
      obtain ⟨a, ha, ea⟩ := hF (f k) (h6 k (by omega))
      obtain ⟨s1, s2⟩ := see_1 hs (h6 k (by omega))
      rw [ea]
      by_cases q : nI a &&& nI p = 0
      · rw [if_pos q, s1, nI_1]
        have q2 := (see_and hs ha (fun i hi => h6 i (by omega))).mp q
        refine ih (k + 1) _ _ (by omega) s2 (fun j hj i hi => ?_)
        by_cases e : j = k
        · subst e
          rw [ea]
          exact q2 i hi
        · exact ho j (by omega) i hi
      · rw [if_neg q]
        refine ⟨zb0, h0 (fun ok => q ?_)⟩
        refine (see_and hs ha (fun i hi => h6 i (by omega))).mpr (fun i hi => ?_)
        have := ok k (by omega) i hi
        rw [ea] at this
        exact this
  exact lp n 0 0 mU (by omega) see_0 (fun j hj => absurd hj (Nat.not_lt_zero j))
theorem d_keepsMust {n : Nat} {f : Nat → Nat} (hn : n ≤ 6) (hp : rzP n f) (e0 : μ 55 0 = nI n) (e1 : ∀ k, k < n → μ 63 k = nI (f k)) (hF : ∀ x, x < 6 → ∃ k, k < 64 ∧ μ 58 x = nI k) (h1 : okG n (μ 58) f → K (mI 1) μ) (h0 : ¬ okG n (μ 58) f → K (mI 0) μ) : s_X10_keepsMust [mO 9 55] μ K := by
  have h6 : ∀ k, k < n → f k < 6 := fun k hk => by have := hp.lt hk; omega
  refine g_X10_keepsMust ?_
  have l0 : ¬ okG n (μ 58) f → ∀ (d k p : Nat), k + d = n → see f k p → Tot e_X10_keepsMust K 6 [mO 9 55, mI 0, mI (nI p), mI (nI k)] [] μ := by
    intro hno d
    induction d with
    | zero =>
      intro k p hk hs
      refine g_X10_keepsMust_6 ?_
      rw [e0, if_pos (nI_le (by omega) (by omega))]
      exact ⟨zb0, h0 hno⟩
    | succ d ih =>
      intro k p hk hs
      refine g_X10_keepsMust_6 ?_
      obtain ⟨s1, s2⟩ := see_1 hs (h6 k (by omega))
      rw [e0, if_neg (nI_ge (by omega) (by omega)), if_pos rfl, nI_clamp (by omega), e1 k (by omega), s1, nI_1]
      exact ⟨vi_nI (by omega) (by decide), ih (k + 1) _ (by omega) s2⟩
  have lp : ∀ (d k p : Nat), k + d = n → see f k p → (∀ j, j < k → ∀ i, i ≤ j → bb (μ 58 (f j)) (f i) = false) → Tot e_X10_keepsMust K 6 [mO 9 55, mI 1, mI (nI p), mI (nI k)] [] μ := by
    intro d
    induction d with
    | zero =>
      intro k p hk hs ho
      refine g_X10_keepsMust_6 ?_
      rw [e0, if_pos (nI_le (by omega) (by omega))]
      exact ⟨zb1, h1 (fun j hj i hi => ho j (by omega) i hi)⟩
    | succ d ih =>
      intro k p hk hs ho
      refine g_X10_keepsMust_6 ?_
      obtain ⟨s1, s2⟩ := see_1 hs (h6 k (by omega))
      have hf6 := h6 k (by omega)
      obtain ⟨a, ha, ea⟩ := hF (f k) hf6
      rw [e0, if_neg (nI_ge (by omega) (by omega)), if_neg i10, nI_clamp (by omega), e1 k (by omega), s1, nI_1, nI_clamp (by omega), ea]
      refine ⟨vi_nI (by omega) (by decide), vi_nI (by omega) (by decide), vi_nI hf6 (by decide), ?_⟩
      by_cases q : nI a &&& nI (p ||| 2 ^ f k) = 0
      · rw [if_pos q]
        have q2 := (see_and s2 ha (fun i hi => h6 i (by omega))).mp q
        refine ih (k + 1) _ (by omega) s2 (fun j hj i hi => ?_)
        by_cases e : j = k
        · subst e
          rw [ea]
          exact q2 i (by omega)
        · exact ho j (by omega) i hi
      · rw [if_neg q]
        refine l0 (fun ok => q ?_) d (k + 1) _ (by omega) s2
        refine (see_and s2 ha (fun i hi => h6 i (by omega))).mpr (fun i hi => ?_)
        have := ok k (by omega) i (by omega)
        rw [ea] at this
        exact this
  exact lp n 0 0 (by omega) see_0 (fun j hj => absurd hj (Nat.not_lt_zero j))
end KM
