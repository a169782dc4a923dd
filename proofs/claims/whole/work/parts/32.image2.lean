/-! ===== images: the relation ===== -/
theorem pth_cg {g g' : Nat → Int32} (h : ∀ x, x < 6 → g x = g' x) : ∀ (m x y : Nat), x < 6 → pth g m x y → pth g' m x y
  | 0, x, y, hx, p => by
    show bb (g' x) y = true
    rw [← h x hx]
    exact p
  | m + 1, x, y, hx, p => by
    obtain ⟨z, hz, e, q⟩ := p
    exact ⟨z, hz, by rw [← h x hx]; exact e, pth_cg h m z y hz q⟩
theorem Pm_cg {n : Nat} {f g f' g' : Nat → Int32} (hf : ∀ x, x < 6 → f x = f' x) (hg : ∀ x, x < 6 → g x = g' x) (h : Pm n f g) : Pm n f' g' := by
  obtain ⟨h1, h2, h3, h4, h5⟩ := h
  refine ⟨fun x hx => by rw [← hf x hx]; exact h1 x hx, fun x hx => by rw [← hg x hx]; exact h2 x hx, fun x y hx hy e => h3 x y hx hy (by rw [hg x hx]; exact e), fun x y hx hy => ?_, fun x hx => by rw [← hf x hx]; exact h5 x hx⟩
  rw [← hf x hx, h4 x y hx hy]
  exact ⟨fun ⟨m, p⟩ => ⟨m, pth_cg hg m x y hx p⟩, fun ⟨m, p⟩ => ⟨m, pth_cg (fun z hz => (hg z hz).symm) m x y hx p⟩⟩
theorem vIm_cg {im im' : Nat → Int32} {o : Nat} (h : ∀ i, i < 99 → im (o + i) = im' (o + i)) : vIm im o = vIm im' o := by
  funext r i
  match r with
  | 0 =>
    match i with
    | 0 => exact h 84 (by omega)
    | 1 => exact h 85 (by omega)
    | 2 => exact h 86 (by omega)
    | 3 => exact h 87 (by omega)
    | 4 => exact h 88 (by omega)
    | 5 => exact h 89 (by omega)
    | 6 => exact h 90 (by omega)
    | i + 7 => rfl
  | 1 => exact congrFun (tr_eq fun j hj => h j (by omega)) i
  | 2 => exact congrFun (tr_eq (f := fun i => im (o + 48 + i)) (g := fun i => im' (o + 48 + i)) fun j hj => by
      show im (o + 48 + j) = im' (o + 48 + j)
      rw [Nat.add_assoc]; exact h (48 + j) (by omega)) i
  | 3 => exact congrFun (tr_eq (f := fun i => im (o + 60 + i)) (g := fun i => im' (o + 60 + i)) fun j hj => by
      show im (o + 60 + j) = im' (o + 60 + j)
      rw [Nat.add_assoc]; exact h (60 + j) (by omega)) i
  | 4 => exact congrFun (tr_eq (f := fun i => im (o + 91 + i)) (g := fun i => im' (o + 91 + i)) fun j hj => by
      show im (o + 91 + j) = im' (o + 91 + j)
      rw [Nat.add_assoc]; exact h (91 + j) (by omega)) i
  | 5 => exact congrFun (tr_eq (f := fun i => im (o + 66 + 3 * i)) (g := fun i => im' (o + 66 + 3 * i)) fun j hj => by
      show im (o + 66 + 3 * j) = im' (o + 66 + 3 * j)
      rw [Nat.add_assoc]; exact h (66 + 3 * j) (by omega)) i
  | 6 => exact congrFun (tr_eq (f := fun i => im (o + 66 + (3 * i + 1))) (g := fun i => im' (o + 66 + (3 * i + 1))) fun j hj => by
      show im (o + 66 + (3 * j + 1)) = im' (o + 66 + (3 * j + 1))
      rw [Nat.add_assoc]; exact h (66 + (3 * j + 1)) (by omega)) i
  | 7 => exact congrFun (tr_eq (f := fun i => im (o + 66 + (3 * i + 2))) (g := fun i => im' (o + 66 + (3 * i + 2))) fun j hj => by
      show im (o + 66 + (3 * j + 2)) = im' (o + 66 + (3 * j + 2))
      rw [Nat.add_assoc]; exact h (66 + (3 * j + 2)) (by omega)) i
  | r + 8 => rfl
theorem vIm_img {μ : Mm} : vIm (fun i => img μ i) 0 = vM μ := by
  funext r i
  match r with
  | 0 =>
    match i with
    | 0 => rfl
    | 1 => rfl
    | 2 => rfl
    | 3 => rfl
    | 4 => rfl
    | 5 => rfl
    | 6 => rfl
    | i + 7 => rfl
  | 1 => exact congrFun (tr_eq (f := fun i => img μ (0 + i)) (g := μ 56) fun j hj => by
      show img μ (0 + j) = μ 56 j
      rw [Nat.zero_add]; exact (img_0 hj).symm) i
  | 2 => exact congrFun (tr_eq (f := fun i => img μ (0 + 48 + i)) (g := μ 57) fun j hj => by
      show img μ (0 + 48 + j) = μ 57 j
      rw [Nat.zero_add]; exact (img_1 hj).symm) i
  | 3 => exact congrFun (tr_eq (f := fun i => img μ (0 + 60 + i)) (g := μ 59) fun j hj => by
      show img μ (0 + 60 + j) = μ 59 j
      rw [Nat.zero_add]; exact (img_3 hj).symm) i
  | 4 => exact congrFun (tr_eq (f := fun i => img μ (0 + 91 + i)) (g := μ 60) fun j hj => by
      show img μ (0 + 91 + j) = μ 60 j
      rw [Nat.zero_add]; exact img_5.symm) i
  | 5 => exact congrFun (tr_eq (f := fun i => img μ (0 + 66 + 3 * i)) (g := fun i => μ 61 (3 * i)) fun j hj => by
      show img μ (0 + 66 + 3 * j) = μ 61 (3 * j)
      rw [Nat.zero_add]; exact (img_4 (by omega)).symm) i
  | 6 => exact congrFun (tr_eq (f := fun i => img μ (0 + 66 + (3 * i + 1))) (g := fun i => μ 61 (3 * i + 1)) fun j hj => by
      show img μ (0 + 66 + (3 * j + 1)) = μ 61 (3 * j + 1)
      rw [Nat.zero_add]; exact (img_4 (by omega)).symm) i
  | 7 => exact congrFun (tr_eq (f := fun i => img μ (0 + 66 + (3 * i + 2))) (g := fun i => μ 61 (3 * i + 2)) fun j hj => by
      show img μ (0 + 66 + (3 * j + 2)) = μ 61 (3 * j + 2)
      rw [Nat.zero_add]; exact (img_4 (by omega)).symm) i
  | r + 8 => rfl
theorem vIm_sh {im : Nat → Int32} {o : Nat} : vIm im o = vIm (fun i => im (o + i)) 0 := by
  funext r i
  match r with
  | 0 =>
    match i with
    | 0 => rfl
    | 1 => rfl
    | 2 => rfl
    | 3 => rfl
    | 4 => rfl
    | 5 => rfl
    | 6 => rfl
    | i + 7 => rfl
  | 1 => simp only [vIm, Nat.zero_add]
  | 2 => simp only [vIm, Nat.zero_add, Nat.add_assoc]
  | 3 => simp only [vIm, Nat.zero_add, Nat.add_assoc]
  | 4 => simp only [vIm, Nat.zero_add, Nat.add_assoc]
  | 5 => simp only [vIm, Nat.zero_add, Nat.add_assoc]
  | 6 => simp only [vIm, Nat.zero_add, Nat.add_assoc]
  | 7 => simp only [vIm, Nat.zero_add, Nat.add_assoc]
  | r + 8 => rfl
theorem vIm_new {μ : Mm} {im : Nat → Int32} {o : Nat} (h : ∀ i, i < 99 → im (o + i) = img μ i) : vIm im o = vM μ := by
  rw [vIm_sh, ← vIm_img]
  exact vIm_cg fun i hi => by
    show im (o + (0 + i)) = img μ (0 + i)
    rw [Nat.zero_add]
    exact h i hi
theorem Pi1_cg {t t2 : Int32} {v v' : Vw} {af af' im im' : Nat → Int32} {o : Nat} (hv : v = v') (ha : ∀ x, x < 6 → af x = af' x) (hi : ∀ i, i < 99 → im (o + i) = im' (o + i)) (h : Pi1 t v af im o t2) : Pi1 t v' af' im' o t2 := by
  refine ⟨h.1, h.2.1, fun e => ?_⟩
  obtain ⟨p, q, w⟩ := h.2.2 e
  refine ⟨by rw [← hv, p]; exact vIm_cg hi, hv ▸ q, ?_⟩
  rw [← hv]
  exact Pm_cg ha (fun x hx => by
    show im (o + 54 + x) = im' (o + 54 + x)
    rw [Nat.add_assoc]; exact hi (54 + x) (by omega)) w
/-- an image just taken -/
theorem Pi1_nw {μ μ' : Mm} (r : Rl μ) {v : Vw} {af im : Nat → Int32} {o : Nat} (em : vM μ' = vM μ) (e58 : μ' 58 = μ 58) (hv : v = vM μ) (ha : ∀ x, x < 6 → af x = μ 7 x) (hi : ∀ i, i < 99 → im (o + i) = img μ' i) : Pi1 1 v af im o 1 := by
  refine ⟨rfl, zb1, fun _ => ⟨?_, ?_, ?_⟩⟩
  · rw [hv, ← em]; exact (vIm_new hi).symm
  · rw [hv]; exact r.wf
  · rw [hv]
    exact Pm_cg (fun x hx => (ha x hx).symm) (fun x hx => by
      show μ 58 x = im (o + 54 + x)
      rw [Nat.add_assoc, hi (54 + x) (by omega), ← img_2 hx, e58]) r.2.2.1
