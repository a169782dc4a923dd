/-! ===== MUST: one more pair ===== -/
def gA (g : Nat → Int32) (a b : Nat) : Nat → Int32 := fun x => if x = a then g a ||| ((1 : Int32) <<< (nI b &&& 31)) else g x
def fA (f : Nat → Int32) (a b : Nat) : Nat → Int32 := fun x => bif (decide (x = a) || bb (f x) a) then f x ||| (f b ||| ((1 : Int32) <<< (nI b &&& 31))) else f x
theorem orbit {x : Int32} {b : Nat} (hb : b < 6) (h : ∃ k, k < 64 ∧ x = nI k) : (∃ k, k < 64 ∧ x ||| ((1 : Int32) <<< (nI b &&& 31)) = nI k) ∧ ∀ y, y < 6 → bb (x ||| ((1 : Int32) <<< (nI b &&& 31))) y = (bb x y || decide (y = b)) := by
  obtain ⟨k, hk, rfl⟩ := h
  obtain ⟨b1, b2, b3⟩ := bit64 b hb
  obtain ⟨o1, o2, o3⟩ := or64 k hk (2 ^ b) b1
  rw [b2, o2]
  exact ⟨⟨_, o1, rfl⟩, fun y hy => by rw [o3 y hy, b3 y hy]⟩
theorem oror {x y : Int32} (h : ∃ k, k < 64 ∧ x = nI k) (h' : ∃ k, k < 64 ∧ y = nI k) : (∃ k, k < 64 ∧ x ||| y = nI k) ∧ ∀ j, j < 6 → bb (x ||| y) j = (bb x j || bb y j) := by
  obtain ⟨k, hk, rfl⟩ := h
  obtain ⟨l, hl, rfl⟩ := h'
  obtain ⟨o1, o2, o3⟩ := or64 k hk l hl
  rw [o2]
  exact ⟨⟨_, o1, rfl⟩, o3⟩
theorem Pm_put {n a b : Nat} {f g : Nat → Int32} (pm : Pm n f g) (ha : a < 6) (hb : b < 6) (han : a < n) (hbn : b < n) (hne : a ≠ b) (hno : ¬ bb (f b) a = true) : Pm n (fA f a b) (gA g a b) := by
  obtain ⟨h1, h2, h3, h4, h5⟩ := pm
  have eg : ∀ x y, x < 6 → y < 6 → (bb (gA g a b x) y = true ↔ bb (g x) y = true ∨ (x = a ∧ y = b)) := by
    intro x y hx hy
    unfold gA
    by_cases e : x = a
    · subst e
      rw [if_pos rfl, (orbit hb (h2 x hx)).2 y hy, Bool.or_eq_true, decide_eq_true_eq]
      exact ⟨fun z => z.imp id (fun w => ⟨rfl, w⟩), fun z => z.imp id (fun w => w.2)⟩
    · rw [if_neg e]
      exact ⟨Or.inl, fun z => z.elim id (fun w => absurd w.1 e)⟩
  have ef : ∀ x y, x < 6 → y < 6 → (bb (fA f a b x) y = true ↔ bb (f x) y = true ∨ ((x = a ∨ bb (f x) a = true) ∧ (y = b ∨ bb (f b) y = true))) := by
    intro x y hx hy
    unfold fA
    cases hc : (decide (x = a) || bb (f x) a) with
    | false =>
      rw [cond_false]
      rw [Bool.or_eq_false_iff, decide_eq_false_iff_not] at hc
      exact ⟨Or.inl, fun z => z.elim id (fun w => w.1.elim (fun q => absurd q hc.1) (fun q => by rw [hc.2] at q; exact absurd q (by decide)))⟩
    | true =>
      rw [cond_true]
      rw [Bool.or_eq_true, decide_eq_true_eq] at hc
      have o := orbit hb (h1 b hb)
      rw [(oror (h1 x hx) o.1).2 y hy, o.2 y hy, Bool.or_eq_true, Bool.or_eq_true, decide_eq_true_eq]
      exact ⟨fun z => z.imp id (fun w => ⟨hc, w.symm⟩), fun z => z.imp id (fun w => w.2.symm)⟩
  have mono : ∀ m x y, x < 6 → y < 6 → pth g m x y → pth (gA g a b) m x y := by
    intro m
    induction m with
    | zero => exact fun x y hx hy p => (eg x y hx hy).mpr (Or.inl p)
    | succ m ih =>
      intro x y hx hy ⟨z, hz, e, p⟩
      exact ⟨z, hz, (eg x z hx hz).mpr (Or.inl e), ih z y hz hy p⟩
  have edge : pth (gA g a b) 0 a b := (eg a b ha hb).mpr (Or.inr ⟨rfl, rfl⟩)
  have fwd : ∀ x y, x < 6 → y < 6 → bb (f x) y = true → ∃ m, pth (gA g a b) m x y := fun x y hx hy e => by
    obtain ⟨m, p⟩ := (h4 x y hx hy).mp e
    exact ⟨m, mono m x y hx hy p⟩
  have back : ∀ m x y, x < 6 → y < 6 → pth (gA g a b) m x y → bb (fA f a b x) y = true := by
    intro m
    induction m with
    | zero =>
      intro x y hx hy p
      rw [ef x y hx hy]
      rcases (eg x y hx hy).mp p with e | ⟨e1, e2⟩
      · exact Or.inl ((h4 x y hx hy).mpr ⟨0, e⟩)
      · exact Or.inr ⟨Or.inl e1, Or.inl e2⟩
    | succ m ih =>
      intro x y hx hy ⟨z, hz, e, p⟩
      have ih := (ef z y hz hy).mp (ih z y hz hy p)
      rw [ef x y hx hy]
      rcases (eg x z hx hz).mp e with e9 | ⟨e1, e2⟩
      · have tr : ∀ w, w < 6 → bb (f z) w = true → bb (f x) w = true := fun w hw q => by
          obtain ⟨k, r⟩ := (h4 z w hz hw).mp q
          exact (h4 x w hx hw).mpr ⟨k + 1, z, hz, e9, r⟩
        rcases ih with q | ⟨q1, q2⟩
        · exact Or.inl (tr y hy q)
        · refine Or.inr ⟨Or.inr ?_, q2⟩
          rcases q1 with q1 | q1
          · subst q1; exact (h4 x z hx hz).mpr ⟨0, e9⟩
          · exact tr a ha q1
      · subst e2
        refine Or.inr ⟨Or.inl e1, ?_⟩
        rcases ih with q | ⟨q1, q2⟩
        · exact Or.inr q
        · exact q2
  refine ⟨fun x hx => ?_, fun x hx => ?_, fun x y hx hy e => ?_, fun x y hx hy => ⟨fun e => ?_, fun ⟨m, p⟩ => back m x y hx hy p⟩, fun x hx => ?_⟩
  · unfold fA
    cases (decide (x = a) || bb (f x) a) with
    | false => exact h1 x hx
    | true => exact (oror (h1 x hx) (orbit hb (h1 b hb)).1).1
  · unfold gA
    split
    · exact (orbit hb (h2 a ha)).1
    · exact h2 x hx
  · rcases (eg x y hx hy).mp e with e | ⟨e1, e2⟩
    · exact h3 x y hx hy e
    · exact ⟨by omega, by omega⟩
  · rcases (ef x y hx hy).mp e with e | ⟨q1, q2⟩
    · exact fwd x y hx hy e
    · have w1 : ∃ m, pth (gA g a b) m x b := by
        rcases q1 with q1 | q1
        · subst q1; exact ⟨0, edge⟩
        · obtain ⟨m, p⟩ := fwd x a hx ha q1
          exact pth_tr ha m 0 x p edge
      rcases q2 with q2 | q2
      · subst q2; exact w1
      · obtain ⟨m, p⟩ := w1
        obtain ⟨k, q⟩ := fwd b y hb hy q2
        exact pth_tr hb m k x p q
  · cases hx2 : bb (fA f a b x) x with
    | false => rfl
    | true =>
      exfalso
      rcases (ef x x hx hx).mp hx2 with e | ⟨q1, q2⟩
      · rw [h5 x hx] at e; exact absurd e (by decide)
      · rcases q1 with q1 | q1
        · rcases q2 with q2 | q2
          · omega
          · subst q1; exact hno q2
        · rcases q2 with q2 | q2
          · subst q2; exact hno q1
          · obtain ⟨m, p⟩ := (h4 b x hb hx).mp q2
            obtain ⟨k, q⟩ := (h4 x a hx ha).mp q1
            obtain ⟨l, w⟩ := pth_tr hx m k b p q
            exact hno ((h4 b a hb ha).mpr ⟨l, w⟩)
