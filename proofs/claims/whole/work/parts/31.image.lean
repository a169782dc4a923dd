/-! ===== images ===== -/
def img (μ : Mm) (i : Nat) : Int32 := if i < 48 then μ 56 i else if i < 54 then μ 57 (i - 48) else if i < 60 then μ 58 (i - 54) else if i < 66 then μ 59 (i - 60) else if i < 84 then μ 61 (i - 66) else if i = 84 then μ 55 0 else if i = 85 then μ 55 1 else if i = 86 then μ 55 2 else if i = 87 then μ 55 3 else if i = 88 then μ 55 4 else if i = 89 then μ 55 5 else if i = 90 then μ 55 11 else μ 60 (i - 91)
def Iv (μ : Mm) (o : Nat) (P : Nat → Prop) (μ' : Mm) : Prop := (∀ c, c ≠ 70 → μ' c = μ c) ∧ (∀ i, i < o ∨ o + 100 ≤ i → μ' 70 i = μ 70 i) ∧ ∀ i, i < 99 → P i → μ' 70 (o + i) = img μ i
theorem Iv.st {μ μ' : Mm} {o : Nat} {P Q : Nat → Prop} (h : Iv μ o P μ') {i0 : Nat} {x : Int32} (hi : i0 < 99) (hx : x = img μ i0) (hQ : ∀ i, Q i → i = i0 ∨ P i) : Iv μ o Q (mS μ' 70 (o + i0) x) := by
  refine ⟨fun c hc => ?_, fun i hr => ?_, fun i h9 hq => ?_⟩
  · rw [mS_c hc]; exact h.1 c hc
  · rw [mS_k (by omega)]; exact h.2.1 i hr
  · by_cases e : i = i0
    · subst e; rw [mS_eq]; exact hx
    · rw [mS_k (by omega)]
      exact h.2.2 i h9 ((hQ i hq).resolve_left e)
theorem img_0 {μ : Mm} {i : Nat} (h : i < 48) : μ 56 i = img μ i := by unfold img; rw [if_pos h]
theorem img_1 {μ : Mm} {i : Nat} (h : i < 6) : μ 57 i = img μ (48 + i) := by
  unfold img
  rw [if_neg (by omega), if_pos (by omega), show 48 + i - 48 = i by omega]
theorem img_2 {μ : Mm} {i : Nat} (h : i < 6) : μ 58 i = img μ (54 + i) := by
  unfold img
  rw [if_neg (by omega), if_neg (by omega), if_pos (by omega), show 54 + i - 54 = i by omega]
theorem img_3 {μ : Mm} {i : Nat} (h : i < 6) : μ 59 i = img μ (60 + i) := by
  unfold img
  rw [if_neg (by omega), if_neg (by omega), if_neg (by omega), if_pos (by omega), show 60 + i - 60 = i by omega]
theorem img_4 {μ : Mm} {i : Nat} (h : i < 18) : μ 61 i = img μ (66 + i) := by
  unfold img
  rw [if_neg (by omega), if_neg (by omega), if_neg (by omega), if_neg (by omega), if_pos (by omega), show 66 + i - 66 = i by omega]
theorem img_5 {μ : Mm} {i : Nat} : μ 60 i = img μ (91 + i) := by
  unfold img
  rw [if_neg (by omega), if_neg (by omega), if_neg (by omega), if_neg (by omega), if_neg (by omega), if_neg (by omega), if_neg (by omega), if_neg (by omega), if_neg (by omega), if_neg (by omega), if_neg (by omega), if_neg (by omega), show 91 + i - 91 = i by omega]
theorem oL (o i : Nat) (hi : o + i < 2 ^ 31) : (nI o + nI i).toNatClampNeg = o + i := by rw [nI_add, nI_clamp hi]
theorem d_image {μ : Mm} {K : MV → Mm → Prop} {a : Nat} (ha : a < 2) (hK : ∀ μ', Iv μ (100 * a) (fun _ => True) μ' → K (mI 1) (mS μ' 71 a 1)) : Tot e_X10_image K 19 [mO 9 55, mI (nI a), mI (nI (100 * a)), mI 0] [] μ := by
  generalize ho : 100 * a = o at hK ⊢
  have ho2 : o ≤ 100 := by omega
  have l4 : ∀ (d k : Nat) (μ' : Mm), k + d = 8 → Iv μ o (fun i => i < 84 ∨ (91 ≤ i ∧ i < 91 + k)) μ' → Tot e_X10_image K 143 [mO 9 55, mI (nI a), mI (nI o), mI (nI k)] [] μ' := by
    intro d
    induction d with
    | zero =>
      intro k μ' hk h
      have e : k = 8 := by omega
      subst e
      refine g_X10_image_143 ?_
      rw [if_pos (show (8 : Int32) ≤ nI 8 by decide)]
      have e84 : nI o + 84 = nI (o + 84) := nI_add o 84
      have e85 : nI o + 85 = nI (o + 85) := nI_add o 85
      have e86 : nI o + 86 = nI (o + 86) := nI_add o 86
      have e87 : nI o + 87 = nI (o + 87) := nI_add o 87
      have e88 : nI o + 88 = nI (o + 88) := nI_add o 88
      have e89 : nI o + 89 = nI (o + 89) := nI_add o 89
      have e90 : nI o + 90 = nI (o + 90) := nI_add o 90
      rw [e84, e85, e86, e87, e88, e89, e90]
      refine ⟨vi_nI (by omega) (by decide), vi_nI (by omega) (by decide), vi_nI (by omega) (by decide), vi_nI (by omega) (by decide), vi_nI (by omega) (by decide), vi_nI (by omega) (by decide), vi_nI (by omega) (by decide), ⟨zb1, vi_nI ha (by decide)⟩, ?_⟩
      rw [nI_clamp (by omega), nI_clamp (by omega), nI_clamp (by omega), nI_clamp (by omega), nI_clamp (by omega), nI_clamp (by omega), nI_clamp (by omega), nI_clamp (by omega)]
      simp (disch := decide) only [mS_c]
      rw [h.1 55 (by decide)]
      refine hK _ (Iv.st (P := fun i => i ≠ 90) (Iv.st (P := fun i => i ≠ 90 ∧ i ≠ 89) (Iv.st (P := fun i => i ≠ 90 ∧ i ≠ 89 ∧ i ≠ 88) (Iv.st (P := fun i => i ≠ 90 ∧ i ≠ 89 ∧ i ≠ 88 ∧ i ≠ 87) (Iv.st (P := fun i => i ≠ 90 ∧ i ≠ 89 ∧ i ≠ 88 ∧ i ≠ 87 ∧ i ≠ 86) (Iv.st (P := fun i => i ≠ 90 ∧ i ≠ 89 ∧ i ≠ 88 ∧ i ≠ 87 ∧ i ≠ 86 ∧ i ≠ 85) (Iv.st (P := fun i => i < 84 ∨ (91 ≤ i)) ?_ (by decide) rfl (fun i q => by omega)) (by decide) rfl (fun i q => by omega)) (by decide) rfl (fun i q => by omega)) (by decide) rfl (fun i q => by omega)) (by decide) rfl (fun i q => by omega)) (by decide) rfl (fun i q => by omega)) (by decide) rfl (fun i q => by omega))
      exact ⟨h.1, h.2.1, fun i h9 q => h.2.2 i h9 (by omega)⟩
    | succ d ih =>
      intro k μ' hk h
      refine g_X10_image_143 ?_
      rw [if_neg (show ¬ (8 : Int32) ≤ nI k from nI_ge (b := 8) (by omega) (by omega))]
      have e1 : (nI o + 91) + nI k = nI (o + (91 + k)) := by
        rw [show (91 : Int32) = nI 91 from rfl, nI_add, nI_add, Nat.add_assoc]
      rw [e1, nI_clamp (by omega), nI_clamp (by omega), h.1 60 (by decide), nI_1]
      refine ⟨vi_nI (by omega) (by decide), vi_nI (by omega) (by decide), ?_⟩
      exact ih (k + 1) _ (by omega) (h.st (by omega) img_5 (fun i q => by omega))
  have l3 : ∀ (d k : Nat) (μ' : Mm), k + d = 18 → Iv μ o (fun i => i < 66 + k) μ' → Tot e_X10_image K 112 [mO 9 55, mI (nI a), mI (nI o), mI (nI k)] [] μ' := by
    intro d
    induction d with
    | zero =>
      intro k μ' hk h
      have e : k = 18 := by omega
      subst e
      refine g_X10_image_112 ?_
      rw [if_pos (show (18 : Int32) ≤ nI 18 by decide)]
      exact l4 8 0 μ' rfl ⟨h.1, h.2.1, fun i h9 q => h.2.2 i h9 (by omega)⟩
    | succ d ih =>
      intro k μ' hk h
      refine g_X10_image_112 ?_
      rw [if_neg (show ¬ (18 : Int32) ≤ nI k from nI_ge (b := 18) (by omega) (by omega))]
      have e1 : (nI o + 66) + nI k = nI (o + (66 + k)) := by
        rw [show (66 : Int32) = nI 66 from rfl, nI_add, nI_add, Nat.add_assoc]
      rw [e1, nI_clamp (by omega), nI_clamp (by omega), h.1 61 (by decide), nI_1]
      refine ⟨vi_nI (by omega) (by decide), vi_nI (by omega) (by decide), ?_⟩
      exact ih (k + 1) _ (by omega) (h.st (by omega) (img_4 (by omega)) (fun i q => by omega))
  have l2 : ∀ (d k : Nat) (μ' : Mm), k + d = 6 → Iv μ o (fun i => i < 48 + k ∨ (54 ≤ i ∧ i < 54 + k) ∨ (60 ≤ i ∧ i < 60 + k)) μ' → Tot e_X10_image K 47 [mO 9 55, mI (nI a), mI (nI o), mI (nI k)] [] μ' := by
    intro d
    induction d with
    | zero =>
      intro k μ' hk h
      have e : k = 6 := by omega
      subst e
      refine g_X10_image_47 ?_
      rw [if_pos (show (6 : Int32) ≤ nI 6 by decide)]
      exact l3 18 0 μ' rfl ⟨h.1, h.2.1, fun i h9 q => h.2.2 i h9 (by omega)⟩
    | succ d ih =>
      intro k μ' hk h
      refine g_X10_image_47 ?_
      rw [if_neg (show ¬ (6 : Int32) ≤ nI k from nI_ge (b := 6) (by omega) (by omega))]
      have e1 : (nI o + 48) + nI k = nI (o + (48 + k)) := by
        rw [show (48 : Int32) = nI 48 from rfl, nI_add, nI_add, Nat.add_assoc]
      have e2 : (nI o + 54) + nI k = nI (o + (54 + k)) := by
        rw [show (54 : Int32) = nI 54 from rfl, nI_add, nI_add, Nat.add_assoc]
      have e3 : (nI o + 60) + nI k = nI (o + (60 + k)) := by
        rw [show (60 : Int32) = nI 60 from rfl, nI_add, nI_add, Nat.add_assoc]
      rw [e1, e2, e3, nI_clamp (by omega), nI_clamp (by omega), nI_clamp (by omega), nI_clamp (by omega), nI_1]
      simp (disch := decide) only [mS_c]
      rw [h.1 57 (by decide), h.1 58 (by decide), h.1 59 (by decide)]
      refine ⟨vi_nI (by omega) (by decide), vi_nI (by omega) (by decide), vi_nI (by omega) (by decide), vi_nI (by omega) (by decide), vi_nI (by omega) (by decide), vi_nI (by omega) (by decide), ?_⟩
      refine ih (k + 1) _ (by omega) (Iv.st (P := fun i => i < 48 + (k + 1) ∨ (54 ≤ i ∧ i < 54 + (k + 1)) ∨ (60 ≤ i ∧ i < 60 + k)) (Iv.st (P := fun i => i < 48 + (k + 1) ∨ (54 ≤ i ∧ i < 54 + k) ∨ (60 ≤ i ∧ i < 60 + k)) (h.st (by omega) (img_1 (by omega)) (fun i q => by omega)) (by omega) (img_2 (by omega)) (fun i q => by omega)) (by omega) (img_3 (by omega)) (fun i q => by omega))
  have l1 : ∀ (d k : Nat) (μ' : Mm), k + d = 48 → Iv μ o (fun i => i < k) μ' → Tot e_X10_image K 19 [mO 9 55, mI (nI a), mI (nI o), mI (nI k)] [] μ' := by
    intro d
    induction d with
    | zero =>
      intro k μ' hk h
      have e : k = 48 := by omega
      subst e
      refine g_X10_image_19 ?_
      rw [if_pos (show (48 : Int32) ≤ nI 48 by decide)]
      exact l2 6 0 μ' rfl ⟨h.1, h.2.1, fun i h9 q => h.2.2 i h9 (by omega)⟩
    | succ d ih =>
      intro k μ' hk h
      refine g_X10_image_19 ?_
      rw [if_neg (show ¬ (48 : Int32) ≤ nI k from nI_ge (b := 48) (by omega) (by omega)), nI_add, nI_clamp (by omega), nI_clamp (by omega), h.1 56 (by decide), nI_1]
      refine ⟨vi_nI (by omega) (by decide), vi_nI (by omega) (by decide), ?_⟩
      exact ih (k + 1) _ (by omega) (h.st (by omega) (img_0 (by omega)) (fun i q => by omega))
  exact l1 48 0 μ rfl ⟨fun _ _ => rfl, fun _ _ => rfl, fun i _ q => absurd q (Nat.not_lt_zero i)⟩
