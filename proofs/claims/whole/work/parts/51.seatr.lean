/-! ===== SEATING: all rows, as the reference tells them ===== -/
def cuN (q : Nat → Bool) : Nat → Nat
  | 0 => 0
  | k + 1 => cuN q k + (bif q k then 1 else 0)
def smN (f : Nat → Nat) : Nat → Nat
  | 0 => 0
  | k + 1 => smN f k + f k
def smF (f : Nat → Nat) : Nat → Nat → Nat
  | _, 0 => 0
  | a, k + 1 => f a + smF f (a + 1) k
def lft (E T : Nat → Nat) (k i : Nat) : Bool := decide (i < k) && decide (E (T k) < E (T i))
def rgt (E T : Nat → Nat) (k i : Nat) : Bool := decide (k < i) && decide (E (T k) < E (T i))
def rsk (E T : Nat → Nat) (n k : Nat) : Nat := min (cuN (lft E T k) n) (cuN (rgt E T k) n)
def RN (E T : Nat → Nat) (n : Nat) : Nat := smN (rsk E T n) n
def KF (φ T : Nat → Nat) (n : Nat) : Prop := ∀ k, k < n → ∀ i, i < n → (φ (T k)).testBit (T i) = true → i + 1 = k ∨ i = k + 1
theorem cuN_le {q : Nat → Bool} : ∀ k, cuN q k ≤ k
  | 0 => Nat.le_refl _
  | k + 1 => by
    have := cuN_le (q := q) k
    unfold cuN
    cases q k
    · rw [cond_false]; omega
    · rw [cond_true]; omega
theorem cuN_cg {q r : Nat → Bool} : ∀ k, (∀ i, i < k → q i = r i) → cuN q k = cuN r k
  | 0, _ => rfl
  | k + 1, h => by
    unfold cuN
    rw [cuN_cg k (fun i hi => h i (by omega)), h k (by omega)]
theorem cuN_0 {q : Nat → Bool} : ∀ k, (∀ i, i < k → q i = false) → cuN q k = 0
  | 0, _ => rfl
  | k + 1, h => by
    unfold cuN
    rw [cuN_0 k (fun i hi => h i (by omega)), h k (by omega)]
    rfl
theorem smN_le {f : Nat → Nat} {b : Nat} (h : ∀ k, f k ≤ b) : ∀ k, smN f k ≤ k * b
  | 0 => Nat.zero_le _
  | k + 1 => by
    have h1 := smN_le h k
    have h2 := h k
    show smN f k + f k ≤ (k + 1) * b
    rw [Nat.succ_mul]
    omega
theorem smN_cg {f g : Nat → Nat} : ∀ k, (∀ i, i < k → f i = g i) → smN f k = smN g k
  | 0, _ => rfl
  | k + 1, h => by
    unfold smN
    rw [smN_cg k (fun i hi => h i (by omega)), h k (by omega)]
theorem smN_F {f : Nat → Nat} : ∀ k a, smN f a + smF f a k = smN f (a + k)
  | 0, _ => rfl
  | k + 1, a => by
    have := smN_F (f := f) k (a + 1)
    show smN f a + (f a + smF f (a + 1) k) = smN f (a + (k + 1))
    rw [show a + (k + 1) = a + 1 + k by omega, ← this]
    show _ = smN f a + f a + smF f (a + 1) k
    omega
theorem rsk_le {E T : Nat → Nat} {n k : Nat} : rsk E T n k ≤ n := Nat.le_trans (Nat.min_le_left _ _) (cuN_le n)
theorem RN_le {E T : Nat → Nat} {n : Nat} (hn : n ≤ 8) : RN E T n ≤ 64 := by
  have h1 := smN_le (f := rsk E T n) (b := n) (fun k => rsk_le) n
  have h2 : n * n ≤ 8 * 8 := Nat.mul_le_mul hn hn
  unfold RN
  omega
theorem lr_cg {E T T' : Nat → Nat} {n k : Nat} (h : ∀ k, k < n → T k = T' k) (hk : k < n) : rsk E T n k = rsk E T' n k := by
  unfold rsk
  rw [cuN_cg (q := lft E T k) (r := lft E T' k) n (fun i hi => by unfold lft; rw [h k hk, h i hi]), cuN_cg (q := rgt E T k) (r := rgt E T' k) n (fun i hi => by unfold rgt; rw [h k hk, h i hi])]
theorem RN_cg {E T T' : Nat → Nat} {n : Nat} (h : ∀ k, k < n → T k = T' k) : RN E T n = RN E T' n := smN_cg n (fun k hk => lr_cg h hk)
theorem KF_cg {φ T T' : Nat → Nat} {n : Nat} (h : ∀ k, k < n → T k = T' k) : KF φ T n ↔ KF φ T' n := by
  constructor
  · intro H k hk i hi e
    rw [← h k hk, ← h i hi] at e
    exact H k hk i hi e
  · intro H k hk i hi e
    rw [h k hk, h i hi] at e
    exact H k hk i hi e
theorem cnt_0 {T : Nat → Nat} {q : Nat → Bool} : ∀ a, (rzl T 0 a).countP q = cuN (fun i => q (T i)) a
  | 0 => rfl
  | a + 1 => by
    rw [rzl_app a 0, List.countP_append, cnt_0 a, Nat.zero_add]
    show cuN (fun i => q (T i)) a + [T a].countP q = cuN (fun i => q (T i)) a + (bif q (T a) then 1 else 0)
    rw [List.countP_cons, List.countP_nil]
    cases q (T a)
    · rw [if_neg (by decide)]; rfl
    · rw [if_pos rfl]; rfl
theorem cu_lt {q : Nat → Bool} {a : Nat} : ∀ m, cuN (fun i => decide (i < a) && q i) (a + m) = cuN q a
  | 0 => cuN_cg a (fun i hi => by rw [decide_eq_true hi, Bool.true_and])
  | m + 1 => by
    show cuN _ (a + m) + (bif decide (a + m < a) && q (a + m) then 1 else 0) = _
    rw [cu_lt m, decide_eq_false (by omega)]
    rfl
theorem cu_gt {T : Nat → Nat} {q : Nat → Bool} {a : Nat} : ∀ m, cuN (fun i => decide (a < i) && q (T i)) (a + 1 + m) = (rzl T (a + 1) m).countP q
  | 0 => cuN_0 _ (fun i hi => by rw [decide_eq_false (by omega), Bool.false_and])
  | m + 1 => by
    rw [rzl_app m (a + 1), List.countP_append, ← cu_gt m]
    show cuN _ (a + 1 + m) + (bif decide (a < a + 1 + m) && q (T (a + 1 + m)) then 1 else 0) = _ + [T (a + 1 + m)].countP q
    rw [decide_eq_true (by omega), Bool.true_and, List.countP_cons, List.countP_nil]
    cases q (T (a + 1 + m))
    · rw [if_neg (by decide)]; rfl
    · rw [if_pos rfl]; rfl
theorem rzl_rc {T : Nat → Nat} {a : Nat} : (rzl T 0 (a + 1)).reverse = T a :: (rzl T 0 a).reverse := by
  rw [rzl_app a 0, List.reverse_append, Nat.zero_add]
  rfl
theorem cs_rzl {E T : Nat → Nat} : ∀ m a, cs E (rzl T 0 a).reverse (rzl T a m) = smF (rsk E T (a + m)) a m
  | 0, _ => rfl
  | m + 1, a => by
    show min ((rzl T 0 a).reverse.countP (fun h => decide (E (T a) < E h))) ((rzl T (a + 1) m).countP (fun h => decide (E (T a) < E h))) + cs E (T a :: (rzl T 0 a).reverse) (rzl T (a + 1) m) = rsk E T (a + (m + 1)) a + smF (rsk E T (a + (m + 1))) (a + 1) m
    rw [← rzl_rc, cs_rzl m (a + 1), show a + (m + 1) = a + 1 + m by omega, List.countP_reverse, cnt_0]
    congr 1
    unfold rsk
    have e1 : cuN (lft E T a) (a + 1 + m) = cuN (fun i => decide (E (T a) < E (T i))) a := by
      rw [show a + 1 + m = a + (1 + m) by omega]
      exact cu_lt (q := fun i => decide (E (T a) < E (T i))) (1 + m)
    have e2 : cuN (rgt E T a) (a + 1 + m) = (rzl T (a + 1) m).countP (fun h => decide (E (T a) < E h)) := cu_gt (q := fun h => decide (E (T a) < E h)) m
    rw [e1, e2]
theorem cs_RN {E T : Nat → Nat} {n : Nat} : cs E [] (rzl T 0 n) = RN E T n := by
  have h1 : cs E [] (rzl T 0 n) = smF (rsk E T (0 + n)) 0 n := cs_rzl (E := E) (T := T) n 0
  have h2 := smN_F (f := rsk E T n) n 0
  rw [h1, Nat.zero_add]
  rw [Nat.zero_add] at h2
  unfold RN
  rw [← h2]
  show _ = 0 + _
  omega
theorem kp_rzl {φ T : Nat → Nat} {n : Nat} (hinj : ∀ i j, i < n → j < n → T i = T j → i = j) : ∀ m a, a + m = n → (kp φ (rzl T 0 a).reverse (rzl T a m) ↔ ∀ k, a ≤ k → k < n → ∀ i, i < k → (φ (T k)).testBit (T i) = true → i + 1 = k)
  | 0, a, ha => ⟨fun _ k h1 h2 => by omega, fun _ => trivial⟩
  | m + 1, a, ha => by
    have ih := kp_rzl hinj (φ := φ) m (a + 1) (by omega)
    rw [rzl_rc] at ih
    have hhd : (∀ h, h ∈ (rzl T 0 a).reverse → (φ (T a)).testBit h = true → h = (rzl T 0 a).reverse.headD 0) ↔ ∀ i, i < a → (φ (T a)).testBit (T i) = true → i + 1 = a := by
      match a, ha with
      | 0, _ => exact ⟨fun _ i hi => absurd hi (Nat.not_lt_zero i), fun _ h hh => absurd (show h ∈ [] from hh) List.not_mem_nil⟩
      | b + 1, ha =>
        rw [rzl_rc]
        constructor
        · intro H i hi e
          have hm : T i ∈ T b :: (rzl T 0 b).reverse := by
            rw [← rzl_rc, List.mem_reverse]
            exact (rzl_mem _ 0).mpr ⟨i, Nat.zero_le _, by omega, rfl⟩
          have := hinj i b (by omega) (by omega) (H _ hm e)
          omega
        · intro H h hm e
          rw [← rzl_rc, List.mem_reverse] at hm
          obtain ⟨i, -, h2, rfl⟩ := (rzl_mem _ 0).mp hm
          have := H i (by omega) e
          have e2 : i = b := by omega
          rw [e2]
          rfl
    show ((∀ h, h ∈ (rzl T 0 a).reverse → (φ (T a)).testBit h = true → h = (rzl T 0 a).reverse.headD 0) ∧ kp φ (T a :: (rzl T 0 a).reverse) (rzl T (a + 1) m)) ↔ _
    rw [hhd, ih]
    constructor
    · intro ⟨h1, h2⟩ k hk hk2
      by_cases e : k = a
      · rw [e]; exact h1
      · exact h2 k (by omega) hk2
    · intro H
      exact ⟨H a (Nat.le_refl _) (by omega), fun k h1 h2 => H k (by omega) h2⟩
theorem kp_KF {φ T : Nat → Nat} {n : Nat} (hinj : ∀ i j, i < n → j < n → T i = T j → i = j) (h8 : ∀ k, k < n → T k < 8) (hsy : ∀ g h, g < 8 → h < 8 → (φ g).testBit h = (φ h).testBit g) (hir : ∀ g, g < 8 → (φ g).testBit g = false) : kp φ [] (rzl T 0 n) ↔ KF φ T n := by
  have h := kp_rzl (φ := φ) hinj n 0 (Nat.zero_add n)
  have h : kp φ [] (rzl T 0 n) ↔ _ := h
  rw [h]
  constructor
  · intro H k hk i hi e
    rcases Nat.lt_trichotomy i k with q | q | q
    · exact Or.inl (H k (Nat.zero_le _) hk i q e)
    · rw [q, hir _ (h8 k hk)] at e
      cases e
    · rw [hsy _ _ (h8 k hk) (h8 i hi)] at e
      have := H i (Nat.zero_le _) hi k q e
      right; omega
  · intro H k _ hk i hi e
    rcases H k hk i (by omega) e with q | q
    · exact q
    · omega
/-! rows of places, and of guests -/
theorem rzl_map {f w : Nat → Nat} : ∀ m a, (rzl f a m).map w = rzl (fun k => w (f k)) a m
  | 0, _ => rfl
  | m + 1, a => congrArg (w (f a) :: ·) (rzl_map m (a + 1))
theorem prm_map {w : Nat → Nat} : ∀ (s l : List Nat), s.Perm (l.map w) → ∃ r : List Nat, r.Perm l ∧ r.map w = s
  | [], l, h => by
    have := h.length_eq
    rw [List.length_map] at this
    have : l = [] := List.eq_nil_of_length_eq_zero this.symm
    subst this
    exact ⟨[], List.Perm.refl _, rfl⟩
  | x :: s, l, h => by
    obtain ⟨a, ha, rfl⟩ := List.mem_map.mp (h.mem_iff.mp List.mem_cons_self)
    have hp : l.Perm (a :: l.erase a) := List.perm_cons_erase ha
    obtain ⟨r, hr, e⟩ := prm_map s (l.erase a) ((h.trans (hp.map w)).cons_inv)
    exact ⟨a :: r, (hr.cons a).trans hp.symm, by rw [List.map_cons, e]⟩
theorem rzv_map {w : Nat → Nat} {n : Nat} (hn : n ≤ 8) (hw : ∀ i j, i < j → j < n → w i < w j) (h8 : ∀ i, i < n → w i < 8) : ∀ (a b : List Nat), a.length = b.length → (∀ z, z ∈ a → z < n) → (∀ z, z ∈ b → z < n) → rzv a ≤ rzv b → rzv (a.map w) ≤ rzv (b.map w)
  | [], _, _, _, _, _ => Nat.zero_le _
  | _ :: _, [], h, _, _, _ => by cases h
  | x :: a, y :: b, h, ha, hb, e => by
    have hl : a.length = b.length := Nat.succ.inj h
    have hx := ha x List.mem_cons_self
    have hy := hb y List.mem_cons_self
    have hl2 : (a.map w).length = (b.map w).length := by rw [List.length_map, List.length_map, hl]
    rcases Nat.lt_trichotomy x y with q | q | q
    · refine Nat.le_of_lt (rzv_hd (hw x y q hy) hl2 (fun z hz => ?_))
      obtain ⟨i, hi, rfl⟩ := List.mem_map.mp hz
      exact h8 i (ha i (List.mem_cons_of_mem _ hi))
    · subst q
      refine rzv_cons hl2 (rzv_map hn hw h8 a b hl (rz_tl ha) (rz_tl hb) ?_)
      have e2 : x * 8 ^ a.length + rzv a ≤ x * 8 ^ b.length + rzv b := e
      rw [hl] at e2
      omega
    · have := rzv_hd q hl.symm (fun z hz => by have := hb z (List.mem_cons_of_mem _ hz); omega)
      omega
theorem rzB_uq {Ok : List Nat → Prop} {V : List Nat → Int} {S : List Nat → Prop} {n : Nat} (hS : ∀ s, S s → s.length = n ∧ ∀ z, z ∈ s → z < 8) {o o' : Option (List Nat)} (h : rzB Ok V S o) (h' : rzB Ok V S o') : o = o' := by
  match o, o', h, h' with
  | none, none, _, _ => rfl
  | none, some b, h, h' => exact absurd h'.2.1 (h b h'.1)
  | some b, none, h, h' => exact absurd h.2.1 (h' b h.1)
  | some b, some b', ⟨h1, h2, h3⟩, ⟨k1, k2, k3⟩ =>
    have a := h3 b' k1 k2
    have c := k3 b h1 h2
    have : rzv b = rzv b' := by omega
    rw [rzv_inj b b' (by rw [(hS b h1).1, (hS b' k1).1]) (hS b h1).2 (hS b' k1).2 this]
section SR
variable {m : Nat} {φ E : Nat → Nat}
def wh (m : Nat) : Nat → Nat := rg (cmL m)
theorem wh_l : rzl (wh m) 0 (pcn m) = cmL m := by
  rw [← cmL_len]
  exact rz_form (cmL m)
theorem wh_lt {i j : Nat} (hij : i < j) (hj : j < pcn m) : wh m i < wh m j := by
  have : (cmL m).Pairwise (fun a b => a < b) := List.Pairwise.filter _ List.pairwise_lt_range
  rw [← wh_l] at this
  exact (rzl_pw _ 0).mp this i j (Nat.zero_le _) hij (by omega)
theorem wh_m (hm : m < 256) {i : Nat} (hi : i < pcn m) : m.testBit (wh m i) = true := by
  refine (cmL_mem hm).mp ?_
  rw [← wh_l]
  exact (rzl_mem _ 0).mpr ⟨i, Nat.zero_le _, by omega, rfl⟩
theorem wh_8 (hm : m < 256) {i : Nat} (hi : i < pcn m) : wh m i < 8 := tb_8 hm (wh_m hm hi)
theorem wh_ex (hm : m < 256) {g : Nat} (hg : m.testBit g = true) : ∃ i, i < pcn m ∧ g = wh m i := by
  have := (cmL_mem hm).mpr hg
  rw [← wh_l] at this
  obtain ⟨k, -, h2, h3⟩ := (rzl_mem _ 0).mp this
  exact ⟨k, by omega, h3⟩
theorem wh_inj {f : Nat → Nat} (hp : rzP (pcn m) f) : ∀ i j, i < pcn m → j < pcn m → wh m (f i) = wh m (f j) → i = j := by
  intro i j hi hj e
  rcases Nat.lt_trichotomy (f i) (f j) with q | q | q
  · have := wh_lt (m := m) q (hp.lt hj); omega
  · rcases Nat.lt_trichotomy i j with z | z | z
    · exact absurd q (hp.ne z hj)
    · exact z
    · exact absurd q.symm (hp.ne z hi)
  · have := wh_lt (m := m) q (hp.lt hi); omega
def okR (φ : Nat → Nat) (m : Nat) (s : List Nat) : Prop := KF φ (fun k => wh m (rg s k)) (pcn m)
def VR (E : Nat → Nat) (m : Nat) (s : List Nat) : Int := (RN E (fun k => wh m (rg s k)) (pcn m) : Int)
def toG (m : Nat) (s : List Nat) : List Nat := rzl (fun k => wh m (rg s k)) 0 (pcn m)
theorem toG_map {s : List Nat} (hs : s.Perm (List.range (pcn m))) : toG m s = s.map (wh m) := by
  obtain ⟨_, e⟩ := rz_prm hs
  have := rzl_map (f := rg s) (w := wh m) (pcn m) 0
  rw [e] at this
  exact this.symm
theorem toG_prm {s : List Nat} (hs : s.Perm (List.range (pcn m))) : (toG m s).Perm (cmL m) := by
  rw [toG_map hs]
  have h1 := hs.map (wh m)
  have h2 : (List.range (pcn m)).map (wh m) = cmL m := by
    have := rzl_map (f := fun k => k) (w := wh m) (pcn m) 0
    have h3 : rzl (fun k => wh m k) 0 (pcn m) = cmL m := wh_l
    rw [← h3, ← this]
    congr 1
    have := (rz_prm (List.Perm.refl (List.range (pcn m)))).2
    rw [← this]
    refine rzl_congr _ _ (fun k _ hk => ?_)
    show (List.range (pcn m)).getD k 0 = k
    rw [List.getD_eq_getElem?_getD, List.getElem?_range (by omega)]
    rfl
  rw [h2] at h1
  exact h1
theorem ofG {s : List Nat} (hs : s.Perm (cmL m)) : ∃ r : List Nat, r.Perm (List.range (pcn m)) ∧ toG m r = s := by
  have h2 : (List.range (pcn m)).map (wh m) = cmL m := by
    have h1 := toG_map (m := m) (List.Perm.refl (List.range (pcn m)))
    have h3 : toG m (List.range (pcn m)) = cmL m := by
      rw [← wh_l (m := m)]
      refine rzl_congr _ _ (fun k _ hk => ?_)
      show wh m ((List.range (pcn m)).getD k 0) = wh m k
      rw [List.getD_eq_getElem?_getD, List.getElem?_range (by omega)]
      rfl
    rw [← h1, h3]
  rw [← h2] at hs
  obtain ⟨r, hr, e⟩ := prm_map s _ hs
  exact ⟨r, hr, by rw [toG_map hr, e]⟩
theorem okR_iff (hm : m < 256) (hsy : ∀ g h, g < 8 → h < 8 → (φ g).testBit h = (φ h).testBit g) (hir : ∀ g, g < 8 → (φ g).testBit g = false) {s : List Nat} (hs : s.Perm (List.range (pcn m))) : kp φ [] (toG m s) ↔ okR φ m s := by
  obtain ⟨hp, _⟩ := rz_prm hs
  exact kp_KF (wh_inj hp) (fun k hk => wh_8 hm (hp.lt hk)) hsy hir
theorem seat_cv (hm : m < 256) (hsy : ∀ g h, g < 8 → h < 8 → (φ g).testBit h = (φ h).testBit g) (hir : ∀ g, g < 8 → (φ g).testBit g = false) {o : Option (List Nat)} (h : rzB (okR φ m) (VR E m) (rzT (pcn m)) o) : rzB (kp φ []) (fun s => (cs E [] s : Int)) (fun s => s.Perm (cmL m)) (o.map (toG m)) := by
  have h8 : pcn m ≤ 8 := pcn_le
  match o, h with
  | none, h =>
    intro s hs ho
    obtain ⟨r, hr, rfl⟩ := ofG hs
    exact h r hr ((okR_iff hm hsy hir hr).mp ho)
  | some b, ⟨h1, h2, h3⟩ =>
    refine ⟨toG_prm h1, (okR_iff hm hsy hir h1).mpr h2, fun s hs ho => ?_⟩
    obtain ⟨r, hr, rfl⟩ := ofG hs
    have e : ∀ q, (cs E [] (toG m q) : Int) = VR E m q := fun q => by
      unfold VR toG
      rw [cs_RN]
    show (cs E [] (toG m b) : Int) < (cs E [] (toG m r) : Int) ∨ ((cs E [] (toG m b) : Int) = (cs E [] (toG m r) : Int) ∧ rzv (toG m b) ≤ rzv (toG m r))
    rw [e, e]
    rcases h3 r hr ((okR_iff hm hsy hir hr).mp ho) with q | ⟨q1, q2⟩
    · exact Or.inl q
    · refine Or.inr ⟨q1, ?_⟩
      rw [toG_map h1, toG_map hr]
      refine rzv_map h8 (fun i j hij hj => wh_lt hij hj) (fun i hi => wh_8 hm hi) b r ?_ ?_ ?_ q2
      · rw [(show b.Perm _ from h1).length_eq, hr.length_eq]
      · exact fun z hz => List.mem_range.mp ((show b.Perm _ from h1).mem_iff.mp hz)
      · exact fun z hz => List.mem_range.mp (hr.mem_iff.mp hz)
end SR
