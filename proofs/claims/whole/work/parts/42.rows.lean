/-! ===== rows of numbers: the walk by digits ===== -/
def rzv : List Nat → Nat
  | [] => 0
  | x :: l => x * 8 ^ l.length + rzv l
theorem rzv_lt : ∀ (l : List Nat), (∀ x, x ∈ l → x < 8) → rzv l < 8 ^ l.length
  | [], _ => by decide
  | x :: l, h => by
    have h1 := rzv_lt l (fun y hy => h y (List.mem_cons_of_mem _ hy))
    have h2 := h x List.mem_cons_self
    show x * 8 ^ l.length + rzv l < 8 ^ (l.length + 1)
    rw [Nat.pow_succ]
    have h3 : (x + 1) * 8 ^ l.length ≤ 8 * 8 ^ l.length := Nat.mul_le_mul_right _ h2
    rw [Nat.succ_mul] at h3
    omega
theorem rzv_hd {x y : Nat} {a b : List Nat} (hxy : x < y) (hl : a.length = b.length) (ha : ∀ z, z ∈ a → z < 8) : rzv (x :: a) < rzv (y :: b) := by
  have h1 := rzv_lt a ha
  show x * 8 ^ a.length + rzv a < y * 8 ^ b.length + rzv b
  rw [← hl]
  have h3 : (x + 1) * 8 ^ a.length ≤ y * 8 ^ a.length := Nat.mul_le_mul_right _ hxy
  rw [Nat.succ_mul] at h3
  omega
theorem rzv_cons {x : Nat} {a b : List Nat} (hl : a.length = b.length) (h : rzv a ≤ rzv b) : rzv (x :: a) ≤ rzv (x :: b) := by
  show x * 8 ^ a.length + rzv a ≤ x * 8 ^ b.length + rzv b
  rw [hl]
  exact Nat.add_le_add_left h _
theorem rzv_consl {x : Nat} {a b : List Nat} (hl : a.length = b.length) (h : rzv a < rzv b) : rzv (x :: a) < rzv (x :: b) := by
  show x * 8 ^ a.length + rzv a < x * 8 ^ b.length + rzv b
  rw [hl]
  exact Nat.add_lt_add_left h _
theorem rzv_app {a b : List Nat} (hl : a.length = b.length) (h : rzv a < rzv b) : ∀ p : List Nat, rzv (p ++ a) < rzv (p ++ b)
  | [] => h
  | x :: p => rzv_consl (by show (p ++ a).length = (p ++ b).length; rw [List.length_append, List.length_append, hl]) (rzv_app hl h p)
theorem rz_tl {x : Nat} {a : List Nat} {p : Nat → Prop} (h : ∀ z, z ∈ x :: a → p z) : ∀ z, z ∈ a → p z := fun z hz => h z (List.mem_cons_of_mem _ hz)
theorem rzv_inj : ∀ (a b : List Nat), a.length = b.length → (∀ z, z ∈ a → z < 8) → (∀ z, z ∈ b → z < 8) → rzv a = rzv b → a = b
  | [], [], _, _, _, _ => rfl
  | [], _ :: _, h, _, _, _ => by cases h
  | _ :: _, [], h, _, _, _ => by cases h
  | x :: a, y :: b, h, ha, hb, e => by
    have hl : a.length = b.length := Nat.succ.inj h
    rcases Nat.lt_trichotomy x y with q | q | q
    · exact absurd e (Nat.ne_of_lt (rzv_hd q hl (rz_tl ha)))
    · subst q
      have e2 : x * 8 ^ a.length + rzv a = x * 8 ^ b.length + rzv b := e
      rw [hl] at e2
      rw [rzv_inj a b hl (rz_tl ha) (rz_tl hb) (by omega)]
    · exact absurd e.symm (Nat.ne_of_lt (rzv_hd q hl.symm (rz_tl hb)))
theorem rzv_top : ∀ (d s : List Nat), d.Pairwise (fun x y => y < x) → s.Perm d → (∀ z, z ∈ d → z < 8) → rzv s ≤ rzv d
  | [], s, _, p, _ => by rw [List.Perm.eq_nil p]; exact Nat.le_refl _
  | x :: d, [], _, _, _ => Nat.zero_le _
  | x :: d, y :: s, hd, p, h8 => by
    have hp := List.pairwise_cons.mp hd
    have hy : y ∈ x :: d := p.mem_iff.mp List.mem_cons_self
    have hl : s.length = d.length := Nat.succ.inj p.length_eq
    rcases List.mem_cons.mp hy with e | e
    · subst e
      exact rzv_cons hl (rzv_top d s hp.2 p.cons_inv (rz_tl h8))
    · exact Nat.le_of_lt (rzv_hd (hp.1 y e) hl (fun z hz => h8 z (p.mem_iff.mp (List.mem_cons_of_mem _ hz))))
theorem rzv_low : ∀ (d s : List Nat), d.Pairwise (fun x y => x < y) → s.Perm d → (∀ z, z ∈ d → z < 8) → rzv d ≤ rzv s
  | [], _, _, _, _ => Nat.zero_le _
  | x :: d, [], _, p, _ => by have := p.length_eq; cases this
  | x :: d, y :: s, hd, p, h8 => by
    have hp := List.pairwise_cons.mp hd
    have hy : y ∈ x :: d := p.mem_iff.mp List.mem_cons_self
    have hl : s.length = d.length := Nat.succ.inj p.length_eq
    rcases List.mem_cons.mp hy with e | e
    · subst e
      exact rzv_cons hl.symm (rzv_low d s hp.2 p.cons_inv (rz_tl h8))
    · exact Nat.le_of_lt (rzv_hd (hp.1 y e) hl.symm (rz_tl h8))
theorem rz_swp {x y : Nat} {d1 d2 : List Nat} : (x :: (d1 ++ y :: d2)).Perm (y :: (d1 ++ x :: d2)) :=
  ((List.Perm.cons x List.perm_middle).trans (List.Perm.swap y x (d1 ++ d2))).trans (List.Perm.cons y List.perm_middle.symm)
theorem rz_new {p : List Nat} {x y : Nat} {d1 d2 : List Nat} : (p ++ y :: (d1 ++ x :: d2).reverse).Perm (p ++ x :: (d1 ++ y :: d2)) :=
  (List.perm_append_left_iff p).mpr ((List.Perm.cons y (List.reverse_perm _)).trans rz_swp.symm)
theorem rzv_gap {x y : Nat} {d1 d2 : List Nat} (hxy : x < y) (hd : (d1 ++ y :: d2).Pairwise (fun a b => b < a)) (hx : ∀ z, z ∈ d2 → z < x) : ∀ (p s : List Nat), s.Perm (p ++ x :: (d1 ++ y :: d2)) → (∀ z, z ∈ s → z < 8) → rzv s ≤ rzv (p ++ x :: (d1 ++ y :: d2)) ∨ rzv (p ++ y :: (d1 ++ x :: d2).reverse) ≤ rzv s
  | _, [], _, _ => Or.inl (Nat.zero_le _)
  | [], z :: s, p, h8 => by
    have hz : z ∈ x :: (d1 ++ y :: d2) := p.mem_iff.mp List.mem_cons_self
    have hl : s.length = (d1 ++ y :: d2).length := Nat.succ.inj p.length_eq
    have hin : ∀ w, w ∈ d1 ++ y :: d2 → w < 8 := fun w hw => h8 w (p.mem_iff.mpr (List.mem_cons_of_mem _ hw))
    have hx8 : x < 8 := h8 x (p.mem_iff.mpr List.mem_cons_self)
    have hl2 : ((d1 ++ x :: d2).reverse).length = s.length := by
      rw [hl, List.length_reverse, List.length_append, List.length_append, List.length_cons, List.length_cons]
    have h82 : ∀ w, w ∈ (d1 ++ x :: d2).reverse → w < 8 := fun w hw => by
      rcases List.mem_append.mp (List.mem_reverse.mp hw) with e | e
      · exact hin w (List.mem_append_left _ e)
      · rcases List.mem_cons.mp e with e | e
        · rw [e]; exact hx8
        · exact hin w (List.mem_append_right _ (List.mem_cons_of_mem _ e))
    obtain ⟨q1, q2, q3⟩ := List.pairwise_append.mp hd
    have q4 := List.pairwise_cons.mp q2
    rcases Nat.lt_trichotomy z x with q | q | q
    · exact Or.inl (Nat.le_of_lt (rzv_hd q hl (rz_tl h8)))
    · subst q
      exact Or.inl (rzv_cons hl (rzv_top _ s hd p.cons_inv hin))
    · right
      have hz2 : z ∈ d1 ++ y :: d2 := (List.mem_cons.mp hz).resolve_left (by omega)
      rcases List.mem_append.mp hz2 with e | e
      · exact Nat.le_of_lt (rzv_hd (q3 z e y List.mem_cons_self) hl2 h82)
      · rcases List.mem_cons.mp e with e | e
        · subst e
          refine rzv_cons hl2 (rzv_low _ s ?_ ?_ h82)
          · refine List.pairwise_reverse.mpr (List.pairwise_append.mpr ⟨q1, List.pairwise_cons.mpr ⟨hx, q4.2⟩, fun a ha b hb => ?_⟩)
            have h1 : z < a := q3 a ha z List.mem_cons_self
            rcases List.mem_cons.mp hb with e | e
            · subst e; omega
            · have := hx b e; omega
          · exact ((p.trans rz_swp).cons_inv).trans (List.reverse_perm _).symm
        · have := hx z e; omega
  | a :: p, z :: s, pm, h8 => by
    have hl : s.length = (p ++ x :: (d1 ++ y :: d2)).length := Nat.succ.inj pm.length_eq
    have hl2 : (p ++ y :: (d1 ++ x :: d2).reverse).length = s.length := by
      rw [hl]; exact rz_new.length_eq
    rcases Nat.lt_trichotomy z a with q | q | q
    · exact Or.inl (Nat.le_of_lt (rzv_hd q hl (rz_tl h8)))
    · subst q
      rcases rzv_gap hxy hd hx p s pm.cons_inv (rz_tl h8) with h | h
      · exact Or.inl (rzv_cons hl h)
      · exact Or.inr (rzv_cons hl2 h)
    · refine Or.inr (Nat.le_of_lt (rzv_hd q hl2 fun w hw => ?_))
      exact h8 w (pm.mem_iff.mpr (List.mem_cons_of_mem _ (rz_new.mem_iff.mp hw)))
/-- a stretch of a function, as a list -/
def rzl (f : Nat → Nat) : Nat → Nat → List Nat
  | _, 0 => []
  | a, m + 1 => f a :: rzl f (a + 1) m
theorem rzl_len {f : Nat → Nat} : ∀ (m a : Nat), (rzl f a m).length = m
  | 0, _ => rfl
  | m + 1, a => congrArg (· + 1) (rzl_len m (a + 1))
theorem rzl_app {f : Nat → Nat} {k : Nat} : ∀ (m a : Nat), rzl f a (m + k) = rzl f a m ++ rzl f (a + m) k
  | 0, a => by rw [Nat.zero_add]; rfl
  | m + 1, a => by
    rw [show m + 1 + k = (m + k) + 1 by omega]
    show f a :: rzl f (a + 1) (m + k) = f a :: (rzl f (a + 1) m ++ rzl f (a + (m + 1)) k)
    rw [rzl_app m (a + 1), show a + 1 + m = a + (m + 1) by omega]
theorem rzl_congr {f g : Nat → Nat} : ∀ (m a : Nat), (∀ k, a ≤ k → k < a + m → f k = g k) → rzl f a m = rzl g a m
  | 0, _, _ => rfl
  | m + 1, a, h => by
    show f a :: rzl f (a + 1) m = g a :: rzl g (a + 1) m
    rw [h a (Nat.le_refl _) (by omega), rzl_congr m (a + 1) (fun k h1 h2 => h k (by omega) (by omega))]
theorem rzl_mem {f : Nat → Nat} {x : Nat} : ∀ (m a : Nat), x ∈ rzl f a m ↔ ∃ k, a ≤ k ∧ k < a + m ∧ x = f k
  | 0, a => ⟨fun h => (by cases h), fun ⟨k, h1, h2, _⟩ => (by omega)⟩
  | m + 1, a => by
    constructor
    · intro h
      rcases List.mem_cons.mp (show x ∈ f a :: rzl f (a + 1) m from h) with e | e
      · exact ⟨a, by omega, by omega, e⟩
      · obtain ⟨k, h1, h2, h3⟩ := (rzl_mem m (a + 1)).mp e
        exact ⟨k, by omega, by omega, h3⟩
    · intro ⟨k, h1, h2, h3⟩
      refine List.mem_cons.mpr ?_
      by_cases e : k = a
      · left; rw [h3, e]
      · right; exact (rzl_mem m (a + 1)).mpr ⟨k, by omega, by omega, h3⟩
theorem rzl_pw {f : Nat → Nat} {R : Nat → Nat → Prop} : ∀ (m a : Nat), (rzl f a m).Pairwise R ↔ ∀ i j, a ≤ i → i < j → j < a + m → R (f i) (f j)
  | 0, a => ⟨fun _ i j h1 h2 h3 => by omega, fun _ => List.Pairwise.nil⟩
  | m + 1, a => by
    rw [show rzl f a (m + 1) = f a :: rzl f (a + 1) m from rfl, List.pairwise_cons, rzl_pw m (a + 1)]
    constructor
    · intro ⟨h1, h2⟩ i j hi hij hj
      by_cases e : i = a
      · rw [e]; exact h1 _ ((rzl_mem m (a + 1)).mpr ⟨j, by omega, by omega, rfl⟩)
      · exact h2 i j (by omega) hij (by omega)
    · intro h
      refine ⟨fun x hx => ?_, fun i j hi hij hj => h i j (by omega) hij (by omega)⟩
      obtain ⟨k, h1, h2, h3⟩ := (rzl_mem m (a + 1)).mp hx
      rw [h3]
      exact h a k (Nat.le_refl _) (by omega) (by omega)
theorem rzl_sh {g : Nat → Nat} : ∀ (m a : Nat), rzl g (a + 1) m = rzl (fun k => g (k + 1)) a m
  | 0, _ => rfl
  | m + 1, a => congrArg (g (a + 1) :: ·) (rzl_sh m (a + 1))
theorem rzl_rev {f : Nat → Nat} : ∀ (m a : Nat), (rzl f a m).reverse = rzl (fun k => f (2 * a + m - 1 - k)) a m
  | 0, _ => rfl
  | m + 1, a => by
    rw [show rzl f a (m + 1) = f a :: rzl f (a + 1) m from rfl, List.reverse_cons, rzl_rev m (a + 1), rzl_sh m a, rzl_app m a]
    have e1 : rzl (fun k => f (2 * (a + 1) + m - 1 - (k + 1))) a m = rzl (fun k => f (2 * a + (m + 1) - 1 - k)) a m := rzl_congr m a fun k h1 h2 => by
      show f _ = f _
      congr 1; omega
    have e2 : rzl (fun k => f (2 * a + (m + 1) - 1 - k)) (a + m) 1 = [f a] := by
      show [f (2 * a + (m + 1) - 1 - (a + m))] = [f a]
      congr 2; omega
    rw [e1, e2]
/-- a row of the n numbers below n, each once -/
def rzP (n : Nat) (f : Nat → Nat) : Prop := (rzl f 0 n).Perm (List.range n)
theorem rzP.lt {n : Nat} {f : Nat → Nat} (h : rzP n f) {k : Nat} (hk : k < n) : f k < n := List.mem_range.mp (h.mem_iff.mp ((rzl_mem n 0).mpr ⟨k, Nat.zero_le _, by omega, rfl⟩))
theorem rzP.ne {n : Nat} {f : Nat → Nat} (h : rzP n f) {i j : Nat} (hi : i < j) (hj : j < n) : f i ≠ f j := (rzl_pw n 0).mp (h.nodup_iff.mpr List.nodup_range) i j (Nat.zero_le _) hi (by omega)
theorem rzP.ex {n : Nat} {f : Nat → Nat} (h : rzP n f) {x : Nat} (hx : x < n) : ∃ k, k < n ∧ x = f k := by
  obtain ⟨k, -, h2, h3⟩ := (rzl_mem n 0).mp (h.mem_iff.mpr (List.mem_range.mpr hx))
  exact ⟨k, by omega, h3⟩
theorem rz8 {n : Nat} (hn : n ≤ 8) {s : List Nat} (h : s.Perm (List.range n)) : ∀ z, z ∈ s → z < 8 := fun z hz => by
  have := List.mem_range.mp (h.mem_iff.mp hz)
  omega
/-- g is the next row behind f -/
def rzN (n : Nat) (f g : Nat → Nat) : Prop := rzP n g ∧ rzv (rzl f 0 n) < rzv (rzl g 0 n) ∧ ∀ s : List Nat, s.Perm (List.range n) → rzv s ≤ rzv (rzl f 0 n) ∨ rzv (rzl g 0 n) ≤ rzv s
/-- f is the last row -/
def rzE (n : Nat) (f : Nat → Nat) : Prop := ∀ s : List Nat, s.Perm (List.range n) → rzv s ≤ rzv (rzl f 0 n)
theorem rz_desc {n i : Nat} {f : Nat → Nat} (h : ∀ k, i < k → k + 1 < n → f (k + 1) < f k) : ∀ (d k : Nat), i < k → k + d + 1 < n → f (k + d + 1) < f k
  | 0, k, h1, h2 => h k h1 h2
  | d + 1, k, h1, h2 => by
    have a := rz_desc h d k h1 (by omega)
    have b := h (k + d + 1) (by omega) (by omega)
    rw [show k + (d + 1) + 1 = k + d + 1 + 1 by omega]
    omega
theorem rz_last {n : Nat} (hn : n ≤ 8) {f : Nat → Nat} (hp : rzP n f) (h : ∀ k, k + 1 < n → f (k + 1) < f k) : rzE n f := fun s hs => by
  refine rzv_top _ s ?_ (hs.trans hp.symm) (rz8 hn hp)
  refine (rzl_pw n 0).mpr fun i j _ hij hj => ?_
  by_cases e : i = 0
  · subst e
    have h0 : f 1 < f 0 := h 0 (by omega)
    by_cases e1 : j = 1
    · rw [e1]; exact h0
    · have := rz_desc (n := n) (i := 0) (fun k _ hk => h k hk) (j - 2) 1 (by omega) (by omega)
      rw [show 1 + (j - 2) + 1 = j by omega] at this
      omega
  · have := rz_desc (n := n) (i := 0) (fun k _ hk => h k hk) (j - i - 1) i (by omega) (by omega)
    rw [show i + (j - i - 1) + 1 = j by omega] at this
    exact this
theorem rz_first {n : Nat} (hn : n ≤ 8) {s : List Nat} (hs : s.Perm (List.range n)) : rzP n (fun k => k) → rzv (rzl (fun k => k) 0 n) ≤ rzv s := fun hp =>
  rzv_low _ s ((rzl_pw n 0).mpr fun _ _ _ hij _ => hij) (hs.trans hp.symm) (rz8 hn hp)
theorem rz_id {n : Nat} : rzP n (fun k => k) := by
  have : ∀ m a, rzl (fun k => k) a m = List.range' a m := by
    intro m
    induction m with
    | zero => intro a; rfl
    | succ m ih =>
      intro a
      rw [List.range'_succ, ← ih]
      rfl
  unfold rzP
  rw [this, List.range_eq_range']
theorem rz_next {n i j : Nat} (hn : n ≤ 8) {f g : Nat → Nat} (hp : rzP n f) (hij : i < j) (hj : j < n) (hd : ∀ k, i < k → k + 1 < n → f (k + 1) < f k) (hf : f i < f j) (hb : ∀ k, j < k → k < n → f k < f i) (g1 : ∀ k, k < i → g k = f k) (g2 : g i = f j) (g3 : ∀ k, i < k → k < n → g k = if n + i - k = j then f i else f (n + i - k)) : rzN n f g := by
  have ef : rzl f 0 n = rzl f 0 i ++ f i :: (rzl f (i + 1) (j - i - 1) ++ f j :: rzl f (j + 1) (n - 1 - j)) := by
    have h1 : rzl f 0 n = rzl f 0 (i + (n - i)) := by rw [show i + (n - i) = n by omega]
    rw [h1, rzl_app, Nat.zero_add]
    congr 1
    rw [show n - i = (n - i - 1) + 1 by omega]
    show f i :: rzl f (i + 1) (n - i - 1) = _
    congr 1
    rw [show n - i - 1 = (j - i - 1) + ((n - 1 - j) + 1) by omega, rzl_app, show i + 1 + (j - i - 1) = j by omega]
    rfl
  have eg : rzl g 0 n = rzl f 0 i ++ f j :: (rzl f (i + 1) (j - i - 1) ++ f i :: rzl f (j + 1) (n - 1 - j)).reverse := by
    have e1 : rzl f (i + 1) (j - i - 1) ++ f i :: rzl f (j + 1) (n - 1 - j) = rzl (fun k => if k = j then f i else f k) (i + 1) (n - i - 1) := by
      rw [show n - i - 1 = (j - i - 1) + ((n - 1 - j) + 1) by omega, rzl_app, show i + 1 + (j - i - 1) = j by omega]
      show _ = _ ++ (if j = j then f i else f j) :: rzl (fun k => if k = j then f i else f k) (j + 1) (n - 1 - j)
      rw [if_pos rfl, rzl_congr (g := fun k => if k = j then f i else f k) (j - i - 1) (i + 1) (fun k h1 h2 => by show f k = if k = j then f i else f k; rw [if_neg (by omega)]), rzl_congr (g := fun k => if k = j then f i else f k) (n - 1 - j) (j + 1) (fun k h1 h2 => by show f k = if k = j then f i else f k; rw [if_neg (by omega)])]
    rw [e1, rzl_rev]
    have h1 : rzl g 0 n = rzl g 0 (i + (n - i)) := by rw [show i + (n - i) = n by omega]
    rw [h1, rzl_app, Nat.zero_add, rzl_congr (g := f) i 0 (fun k _ h2 => g1 k (by omega))]
    congr 1
    rw [show n - i = (n - i - 1) + 1 by omega]
    show g i :: rzl g (i + 1) (n - i - 1) = _
    rw [g2]
    congr 1
    refine rzl_congr _ _ fun k h1 h2 => ?_
    rw [g3 k (by omega) (by omega), show 2 * (i + 1) + (n - i - 1 + 1 - 1) - 1 - k = n + i - k by omega]
  have hpw : (rzl f (i + 1) (j - i - 1) ++ f j :: rzl f (j + 1) (n - 1 - j)).Pairwise (fun a b => b < a) := by
    have e1 : rzl f (i + 1) (j - i - 1) ++ f j :: rzl f (j + 1) (n - 1 - j) = rzl f (i + 1) (n - i - 1) := by
      rw [show n - i - 1 = (j - i - 1) + ((n - 1 - j) + 1) by omega, rzl_app, show i + 1 + (j - i - 1) = j by omega]
      rfl
    rw [e1]
    refine (rzl_pw _ _).mpr fun a b h1 h2 h3 => ?_
    have := rz_desc hd (b - a - 1) a (by omega) (by omega)
    rw [show a + (b - a - 1) + 1 = b by omega] at this
    exact this
  have hx : ∀ z, z ∈ rzl f (j + 1) (n - 1 - j) → z < f i := fun z hz => by
    obtain ⟨k, h1, h2, h3⟩ := (rzl_mem _ _).mp hz
    rw [h3]
    exact hb k (by omega) (by omega)
  refine ⟨?_, ?_, fun s hs => ?_⟩
  · unfold rzP
    rw [eg]
    refine rz_new.trans ?_
    rw [← ef]
    exact hp
  · rw [ef, eg]
    refine rzv_app ?_ (rzv_hd hf ?_ ?_) _
    · rw [List.length_cons, List.length_cons, List.length_reverse, List.length_append, List.length_append, List.length_cons, List.length_cons]
    · rw [List.length_reverse, List.length_append, List.length_append, List.length_cons, List.length_cons]
    · intro z hz
      refine rz8 hn hp z ?_
      rw [ef]
      exact List.mem_append_right _ (List.mem_cons_of_mem _ hz)
  · rw [ef, eg]
    refine rzv_gap hf hpw hx _ s ?_ (rz8 hn hs)
    rw [← ef]
    exact hs.trans hp.symm
/-- how many rows there are up to a row -/
def rzA : Nat → List Nat → List (List Nat)
  | 0, _ => [[]]
  | k + 1, l => l.flatMap (fun x => (rzA k (l.erase x)).map (x :: ·))
theorem rzA_all : ∀ (k : Nat) (s l : List Nat), s.length = k → s.Perm l → s ∈ rzA k l
  | 0, s, l, h, _ => by rw [List.eq_nil_of_length_eq_zero h]; exact List.mem_cons_self
  | k + 1, [], l, h, _ => by cases h
  | k + 1, x :: s, l, h, p => by
    obtain ⟨h1, h2⟩ := List.cons_perm_iff_perm_erase.mp p
    exact List.mem_flatMap.mpr ⟨x, h1, List.mem_map.mpr ⟨s, rzA_all k s _ (Nat.succ.inj h) h2, rfl⟩⟩
def rzC (n : Nat) (r : List Nat) : Nat := (rzA n (List.range n)).countP (fun s => decide (rzv s ≤ rzv r))
theorem rz_cnt {A : Type} {p q : A → Bool} {x : A} : ∀ {l : List A}, (∀ y, p y = true → q y = true) → x ∈ l → p x = false → q x = true → l.countP p < l.countP q
  | [], _, h, _, _ => by cases h
  | y :: l, h, hx, hp, hq => by
    rw [List.countP_cons, List.countP_cons]
    have hm : l.countP p ≤ l.countP q := List.countP_mono_left (fun y _ => h y)
    rcases List.mem_cons.mp hx with e | e
    · subst e
      rw [hp, hq, if_neg (by decide), if_pos rfl]
      omega
    · have := rz_cnt h e hp hq
      cases hy : p y with
      | true => rw [h y hy]; omega
      | false =>
        rw [if_neg (by decide)]
        split <;> omega
theorem rzC_lt {n : Nat} {f g : Nat → Nat} (h : rzN n f g) : rzC n (rzl f 0 n) < rzC n (rzl g 0 n) := by
  refine rz_cnt (x := rzl g 0 n) (fun s hs => ?_) (rzA_all n _ _ (rzl_len n 0) h.1) ?_ ?_
  · have := of_decide_eq_true hs
    exact decide_eq_true (by have := h.2.1; omega)
  · exact decide_eq_false (by have := h.2.1; omega)
  · exact decide_eq_true (Nat.le_refl _)
theorem rzC_le {n : Nat} {r : List Nat} : rzC n r ≤ (rzA n (List.range n)).length := List.countP_le_length
theorem rzA_len : ∀ n, n ≤ 6 → (rzA n (List.range n)).length ≤ 720 := by decide +kernel
/-! ===== the best row of a walk ===== -/
def rzB (Ok : List Nat → Prop) (V : List Nat → Int) (S : List Nat → Prop) : Option (List Nat) → Prop
  | none => ∀ s, S s → ¬ Ok s
  | some b => S b ∧ Ok b ∧ ∀ s, S s → Ok s → V b < V s ∨ (V b = V s ∧ rzv b ≤ rzv s)
/-- the rows behind which the walk stands -/
def rzS (n v : Nat) : List Nat → Prop := fun s => s.Perm (List.range n) ∧ rzv s < v
def rzT (n : Nat) : List Nat → Prop := fun s => s.Perm (List.range n)
theorem rzB_0 {Ok : List Nat → Prop} {V : List Nat → Int} {n : Nat} (hn : n ≤ 8) : rzB Ok V (rzS n (rzv (rzl (fun k => k) 0 n))) none := fun s hs => by
  have := rz_first hn hs.1 rz_id
  have := hs.2
  omega
theorem rz_iff {n : Nat} (hn : n ≤ 8) {f : Nat → Nat} (hp : rzP n f) {s : List Nat} (hs : s.Perm (List.range n)) : rzv s ≤ rzv (rzl f 0 n) ↔ rzv s < rzv (rzl f 0 n) ∨ s = rzl f 0 n := by
  constructor
  · intro h
    rcases Nat.lt_or_eq_of_le h with e | e
    · exact Or.inl e
    · exact Or.inr (rzv_inj _ _ (by rw [hs.length_eq, hp.length_eq]) (rz8 hn hs) (rz8 hn hp) e)
  · intro h
    rcases h with e | e
    · omega
    · rw [e]; exact Nat.le_refl _
/-- a row that isn't better -/
theorem rzB_no {Ok : List Nat → Prop} {V : List Nat → Int} {n : Nat} (hn : n ≤ 8) {f : Nat → Nat} (hp : rzP n f) {o : Option (List Nat)} (h : rzB Ok V (rzS n (rzv (rzl f 0 n))) o) (hno : ¬ Ok (rzl f 0 n) ∨ ∃ b, o = some b ∧ V b ≤ V (rzl f 0 n)) : rzB Ok V (fun s => s.Perm (List.range n) ∧ rzv s ≤ rzv (rzl f 0 n)) o := by
  match o, h, hno with
  | none, h, hno =>
    intro s hs ho
    rcases (rz_iff hn hp hs.1).mp hs.2 with e | e
    · exact h s ⟨hs.1, e⟩ ho
    · rcases hno with q | ⟨b, q, _⟩
      · rw [e] at ho; exact q ho
      · cases q
  | some b, ⟨h1, h2, h3⟩, hno =>
    refine ⟨⟨h1.1, Nat.le_of_lt h1.2⟩, h2, fun s hs ho => ?_⟩
    rcases (rz_iff hn hp hs.1).mp hs.2 with e | e
    · exact h3 s ⟨hs.1, e⟩ ho
    · rcases hno with q | ⟨b', q, q2⟩
      · rw [e] at ho; exact absurd ho q
      · cases q
        rw [e]
        have := h1.2
        omega
/-- a better row -/
theorem rzB_yes {Ok : List Nat → Prop} {V : List Nat → Int} {n : Nat} (hn : n ≤ 8) {f : Nat → Nat} (hp : rzP n f) {o : Option (List Nat)} (h : rzB Ok V (rzS n (rzv (rzl f 0 n))) o) (hok : Ok (rzl f 0 n)) (hb : ∀ b, o = some b → V (rzl f 0 n) < V b) : rzB Ok V (fun s => s.Perm (List.range n) ∧ rzv s ≤ rzv (rzl f 0 n)) (some (rzl f 0 n)) := by
  refine ⟨⟨hp, Nat.le_refl _⟩, hok, fun s hs ho => ?_⟩
  rcases (rz_iff hn hp hs.1).mp hs.2 with e | e
  · match o, h, hb with
    | none, h, _ => exact absurd ho (h s ⟨hs.1, e⟩)
    | some b, ⟨_, _, h3⟩, hb =>
      have h4 := hb b rfl
      rcases h3 s ⟨hs.1, e⟩ ho with q | q
      · left; omega
      · left; omega
  · right; rw [e]; exact ⟨rfl, Nat.le_refl _⟩
theorem rzB_cg {Ok : List Nat → Prop} {V : List Nat → Int} {S S' : List Nat → Prop} (h : ∀ s, S s ↔ S' s) {o : Option (List Nat)} (hb : rzB Ok V S o) : rzB Ok V S' o := by
  have : S = S' := funext fun s => propext (h s)
  rw [← this]
  exact hb
theorem rzB_nx {Ok : List Nat → Prop} {V : List Nat → Int} {n : Nat} {f g : Nat → Nat} (hg : rzN n f g) {o : Option (List Nat)} (h : rzB Ok V (fun s => s.Perm (List.range n) ∧ rzv s ≤ rzv (rzl f 0 n)) o) : rzB Ok V (rzS n (rzv (rzl g 0 n))) o :=
  rzB_cg (fun s => ⟨fun q => ⟨q.1, by have := q.2; have := hg.2.1; omega⟩, fun q => ⟨q.1, by rcases hg.2.2 s q.1 with z | z; exact z; have := q.2; omega⟩⟩) h
theorem rzB_end {Ok : List Nat → Prop} {V : List Nat → Int} {n : Nat} {f : Nat → Nat} (he : rzE n f) {o : Option (List Nat)} (h : rzB Ok V (fun s => s.Perm (List.range n) ∧ rzv s ≤ rzv (rzl f 0 n)) o) : rzB Ok V (rzT n) o :=
  rzB_cg (fun s => ⟨fun q => q.1, fun q => ⟨q, he s q⟩⟩) h
theorem rzB_one {Ok : List Nat → Prop} {V : List Nat → Int} {n : Nat} (hn : n ≤ 8) {o o' : Option (List Nat)} (h : rzB Ok V (rzT n) o) (h' : rzB Ok V (rzT n) o') : o = o' := by
  match o, o', h, h' with
  | none, none, _, _ => rfl
  | none, some b, h, h' => exact absurd h'.2.1 (h b h'.1)
  | some b, none, h, h' => exact absurd h.2.1 (h' b h.1)
  | some b, some b', ⟨h1, h2, h3⟩, ⟨k1, k2, k3⟩ =>
    have a := h3 b' k1 k2
    have c := k3 b h1 h2
    have : rzv b = rzv b' := by omega
    rw [rzv_inj b b' (by rw [(show b.Perm _ from h1).length_eq, (show b'.Perm _ from k1).length_eq]) (rz8 hn h1) (rz8 hn k1) this]
