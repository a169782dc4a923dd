/-! ===== SEATING: the row filled from the left, and all rows ===== -/
section SP
variable (m : Nat) (φ E : Nat → Nat)
def kp : List Nat → List Nat → Prop
  | _, [] => True
  | p, g :: t => (∀ h, h ∈ p → (φ g).testBit h = true → h = p.headD 0) ∧ kp (g :: p) t
def cs : List Nat → List Nat → Nat
  | _, [] => 0
  | p, g :: t => min (p.countP (fun h => decide (E g < E h))) (t.countP (fun h => decide (E g < E h))) + cs (g :: p) t
def ltr (g : Nat) : Nat := mkN (fun h => m.testBit h && decide (E g < E h)) 8
def may (L l g : Nat) : Bool := (m.testBit g && !L.testBit g) && decide (nI (φ g &&& L) &&& (nI (2 ^ l) ^^^ (-1 : Int32)) = 0)
def rsn (L g : Nat) : Nat := if pcn (ltr m E g &&& (L ^^^ 4294967295)) < pcn (ltr m E g &&& L) then pcn (ltr m E g &&& (L ^^^ 4294967295)) else pcn (ltr m E g &&& L)
def lsf (s : Nat) (ok : Nat → Bool) (w : Nat → Nat) : Nat → Nat
  | 0 => s
  | k + 1 => bif ok k then (if w k < lsf s ok w k then w k else lsf s ok w k) else lsf s ok w k
def vlt (X : Nat → Nat → Nat) (L l : Nat) : Nat := lsf (if L = m then 0 else 1000) (may m φ L l) (fun g => rsn m E L g + X (L ||| 2 ^ g) g) 8
def TB (X : Nat → Nat → Nat) : Prop := ∀ L, L < 256 → (∀ h, h < 8 → L.testBit h = true → m.testBit h = true) → ∀ l, l < 8 → X L l = vlt m φ E X L l
def ffs (ok : Nat → Bool) (dt : Nat) : Nat → Nat → Nat
  | 0, _ => dt
  | d + 1, k => bif ok k then k else ffs ok dt d (k + 1)
def nxo (X : Nat → Nat → Nat) (L l : Nat) : Nat → Bool := fun g => may m φ L l g && decide (rsn m E L g + X (L ||| 2 ^ g) g = X L l)
def gl (X : Nat → Nat → Nat) : Nat → Nat → Nat → List Nat
  | 0, _, _ => []
  | d + 1, L, l => ffs (nxo m φ E X L l) l 8 0 :: gl X d (L ||| 2 ^ ffs (nxo m φ E X L l) l 8 0) (ffs (nxo m φ E X L l) l 8 0)
end SP
theorem lsf_s {s : Nat} {ok : Nat → Bool} {w : Nat → Nat} : ∀ k, lsf s ok w k ≤ s
  | 0 => Nat.le_refl _
  | k + 1 => by
    have ih := lsf_s (s := s) (ok := ok) (w := w) k
    unfold lsf
    cases ok k
    · exact ih
    · rw [cond_true]
      split <;> omega
theorem lsf_le {s : Nat} {ok : Nat → Bool} {w : Nat → Nat} {g : Nat} (ho : ok g = true) : ∀ k, g < k → lsf s ok w k ≤ w g
  | 0, h => absurd h (Nat.not_lt_zero g)
  | k + 1, h => by
    unfold lsf
    by_cases e : g = k
    · subst e
      rw [ho, cond_true]
      split <;> omega
    · have ih := lsf_le (s := s) (w := w) ho k (by omega)
      cases ok k
      · exact ih
      · rw [cond_true]
        split <;> omega
theorem lsf_ex {s : Nat} {ok : Nat → Bool} {w : Nat → Nat} : ∀ k, lsf s ok w k = s ∨ ∃ g, g < k ∧ ok g = true ∧ lsf s ok w k = w g
  | 0 => Or.inl rfl
  | k + 1 => by
    have ih := lsf_ex (s := s) (ok := ok) (w := w) k
    unfold lsf
    cases hk : ok k with
    | false =>
      rw [cond_false]
      rcases ih with e | ⟨g, h1, h2, h3⟩
      · exact Or.inl e
      · exact Or.inr ⟨g, by omega, h2, h3⟩
    | true =>
      rw [cond_true]
      by_cases q : w k < lsf s ok w k
      · rw [if_pos q]
        exact Or.inr ⟨k, by omega, hk, rfl⟩
      · rw [if_neg q]
        rcases ih with e | ⟨g, h1, h2, h3⟩
        · exact Or.inl e
        · exact Or.inr ⟨g, by omega, h2, h3⟩
theorem ffs_sp {ok : Nat → Bool} {dt g : Nat} (hg : ok g = true) : ∀ d k, k ≤ g → g < k + d → ok (ffs ok dt d k) = true ∧ ffs ok dt d k ≤ g
  | 0, k, h1, h2 => by omega
  | d + 1, k, h1, h2 => by
    unfold ffs
    cases hk : ok k with
    | true => exact ⟨hk, h1⟩
    | false =>
      rw [cond_false]
      have : k ≠ g := fun e => by rw [e, hg] at hk; cases hk
      exact ffs_sp hg d (k + 1) (by omega) (by omega)
section SQ
variable {m : Nat} {φ E : Nat → Nat} {p t : List Nat} {g : Nat} {X : Nat → Nat → Nat}
theorem may_iff (hφ : ∀ g, g < 8 → φ g < 256) {L l : Nat} (hm : m < 256) : may m φ L l g = true ↔ m.testBit g = true ∧ L.testBit g = false ∧ ∀ h, h < 8 → (φ g).testBit h = true → L.testBit h = true → h = l := by
  unfold may
  rw [Bool.and_eq_true, Bool.and_eq_true, decide_eq_true_eq]
  have e : m.testBit g = true → (nI (φ g &&& L) &&& (nI (2 ^ l) ^^^ (-1 : Int32)) = 0 ↔ ∀ h, h < 8 → (φ g).testBit h = true → L.testBit h = true → h = l) := fun hg => by
    have h8 := tb_8 hm hg
    rw [andn (Nat.lt_of_le_of_lt Nat.and_le_left (hφ g h8))]
    constructor
    · intro H h hh h1 h2
      have := H h hh (by rw [Nat.testBit_and, h1, h2]; rfl)
      rw [Nat.testBit_two_pow, decide_eq_true_eq] at this
      exact this.symm
    · intro H h hh h1
      rw [Nat.testBit_and, Bool.and_eq_true] at h1
      rw [Nat.testBit_two_pow, decide_eq_true_eq]
      exact (H h hh h1.1 h1.2).symm
  constructor
  · intro ⟨⟨h1, h2⟩, h3⟩
    refine ⟨h1, ?_, (e h1).mp h3⟩
    cases hL : L.testBit g with
    | false => rfl
    | true => rw [hL] at h2; cases h2
  · intro ⟨h1, h2, h3⟩
    exact ⟨⟨h1, by rw [h2]; rfl⟩, (e h1).mpr h3⟩
theorem may_cp (hm : m < 256) (hφ : ∀ g, g < 8 → φ g < 256) (h : Cp m p (g :: t)) : may m φ (mkL p) (p.headD 0) g = true ↔ ∀ k, k ∈ p → (φ g).testBit k = true → k = p.headD 0 := by
  rw [may_iff hφ hm]
  constructor
  · intro ⟨_, _, H⟩ k hk hb
    exact H k (h.p8 hm k hk) hb (by rw [mkL_tb, decide_eq_true hk])
  · intro H
    refine ⟨h.mem hm (List.mem_append_right _ List.mem_cons_self), ?_, fun k _ hb hL => ?_⟩
    · rw [mkL_tb, decide_eq_false h.no]
    · rw [mkL_tb, decide_eq_true_eq] at hL
      exact H k hL hb
theorem min_if {a b : Nat} : (if b < a then b else a) = min a b := by
  by_cases h : b < a
  · rw [if_pos h, Nat.min_eq_right (by omega)]
  · rw [if_neg h, Nat.min_eq_left (by omega)]
theorem cp_rs (hm : m < 256) (h : Cp m p (g :: t)) : rsn m E (mkL p) g = min (p.countP (fun k => decide (E g < E k))) (t.countP (fun k => decide (E g < E k))) := by
  unfold rsn
  rw [min_if]
  have hnd := List.nodup_append.mp h.nd
  have hl : ∀ k, k < 8 → (ltr m E g).testBit k = (m.testBit k && decide (E g < E k)) := fun k hk => by
    unfold ltr
    rw [mkN_tb, decide_eq_true hk, Bool.true_and]
  have e1 : pcn (ltr m E g &&& mkL p) = p.countP (fun k => decide (E g < E k)) := by
    rw [← cnt_p hnd.1 (h.p8 hm)]
    refine List.countP_congr fun k hk => ?_
    have hk := List.mem_range.mp hk
    rw [Nat.testBit_and, hl k hk, mkL_tb]
    by_cases q : k ∈ p
    · rw [decide_eq_true q, Bool.and_true, Bool.and_true, h.mem hm (List.mem_append_left _ q), Bool.true_and]
    · rw [decide_eq_false q, Bool.and_false, Bool.and_false]
  have e2 : pcn (ltr m E g &&& (mkL p ^^^ 4294967295)) = t.countP (fun k => decide (E g < E k)) := by
    have e3 : (g :: t).countP (fun k => decide (E g < E k)) = t.countP (fun k => decide (E g < E k)) := by
      rw [List.countP_cons, decide_eq_false (Nat.lt_irrefl _), if_neg (by decide), Nat.add_zero]
    rw [← e3, ← cnt_p hnd.2.1 (h.t8 hm)]
    refine List.countP_congr fun k hk => ?_
    have hk := List.mem_range.mp hk
    rw [Nat.testBit_and, hl k hk, not_tb (by omega), mkL_tb]
    by_cases q : k ∈ p
    · have q2 : ¬ k ∈ g :: t := fun z => hnd.2.2 k q k z rfl
      rw [decide_eq_true q, decide_eq_false q2, Bool.not_true, Bool.and_false, Bool.and_false]
    · rw [decide_eq_false q, Bool.not_false, Bool.and_true]
      cases hb : m.testBit k with
      | true => rw [Bool.true_and, decide_eq_true (h.or hm hb q), Bool.and_true]
      | false =>
        have q2 : ¬ k ∈ g :: t := fun z => by
          rw [h.mem hm (List.mem_append_right _ z)] at hb
          cases hb
        rw [Bool.false_and, decide_eq_false q2, Bool.and_false]
  rw [e1, e2]
theorem Cp.subh (hm : m < 256) (h : Cp m p t) : ∀ k, k < 8 → (mkL p).testBit k = true → m.testBit k = true := fun _ _ hk => h.sub hm hk
theorem hd8 (h : ∀ g, g ∈ p → g < 8) : p.headD 0 < 8 := by
  match p, h with
  | [], _ => decide
  | g :: p, h => exact h g List.mem_cons_self
theorem tb_end (hm : m < 256) (tb : TB m φ E X) (h : Cp m p []) : X (mkL p) (p.headD 0) = 0 := by
  rw [tb _ (h.lt hm) (h.subh hm) _ (hd8 (h.p8 hm))]
  have := lsf_s (s := if mkL p = m then 0 else 1000) (ok := may m φ (mkL p) (p.headD 0)) (w := fun g => rsn m E (mkL p) g + X (mkL p ||| 2 ^ g) g) 8
  rw [if_pos (h.all hm)] at this
  unfold vlt
  rw [if_pos (h.all hm)]
  omega
theorem tb_le (hm : m < 256) (hφ : ∀ g, g < 8 → φ g < 256) (tb : TB m φ E X) (h : Cp m p (g :: t)) (hk : ∀ k, k ∈ p → (φ g).testBit k = true → k = p.headD 0) : X (mkL p) (p.headD 0) ≤ rsn m E (mkL p) g + X (mkL (g :: p)) g := by
  rw [tb _ (h.lt hm) (h.subh hm) _ (hd8 (h.p8 hm))]
  exact lsf_le ((may_cp hm hφ h).mpr hk) 8 (h.t8 hm g List.mem_cons_self)
theorem seat_lb (hm : m < 256) (hφ : ∀ g, g < 8 → φ g < 256) (tb : TB m φ E X) : ∀ (t p : List Nat), Cp m p t → kp φ p t → X (mkL p) (p.headD 0) ≤ cs E p t
  | [], p, h, _ => by rw [tb_end hm tb h]; exact Nat.zero_le _
  | g :: t, p, h, k => by
    have h1 := tb_le hm hφ tb h k.1
    have h2 : X (mkL (g :: p)) g ≤ cs E (g :: p) t := seat_lb hm hφ tb t (g :: p) h.mv k.2
    rw [cp_rs hm h] at h1
    show _ ≤ _ + cs E (g :: p) t
    omega
theorem cs_le : ∀ (t p : List Nat), cs E p t ≤ p.length * t.length + t.length * t.length
  | [], _ => Nat.zero_le _
  | g :: t, p => by
    have h1 := cs_le t (g :: p)
    have h2 : t.countP (fun h => decide (E g < E h)) ≤ t.length := List.countP_le_length
    have h3 := Nat.min_le_right (p.countP (fun h => decide (E g < E h))) (t.countP (fun h => decide (E g < E h)))
    show min _ _ + cs E (g :: p) t ≤ p.length * (t.length + 1) + (t.length + 1) * (t.length + 1)
    rw [List.length_cons, Nat.succ_mul] at h1
    rw [Nat.mul_succ, Nat.mul_succ, Nat.succ_mul]
    omega
theorem seat_gr (hm : m < 256) (hφ : ∀ g, g < 8 → φ g < 256) (tb : TB m φ E X) : ∀ (d : Nat) (p t : List Nat), t.length = d → Cp m p t → X (mkL p) (p.headD 0) < 1000 →
    Cp m p (gl m φ E X d (mkL p) (p.headD 0)) ∧ kp φ p (gl m φ E X d (mkL p) (p.headD 0)) ∧ cs E p (gl m φ E X d (mkL p) (p.headD 0)) = X (mkL p) (p.headD 0) ∧ ∀ t', Cp m p t' → kp φ p t' → cs E p t' = X (mkL p) (p.headD 0) → rzv (gl m φ E X d (mkL p) (p.headD 0)) ≤ rzv t'
  | 0, p, [], _, h, hx => by
    refine ⟨h, trivial, ?_, fun t' _ _ _ => Nat.zero_le _⟩
    rw [tb_end hm tb h]
    rfl
  | 0, p, g :: t, hl, _, _ => by cases hl
  | d + 1, p, [], hl, _, _ => by cases hl
  | d + 1, p, g1 :: t, hl, h, hx => by
    have hv := tb _ (h.lt hm) (h.subh hm) _ (hd8 (h.p8 hm))
    have hex : ∃ g, g < 8 ∧ nxo m φ E X (mkL p) (p.headD 0) g = true := by
      rcases lsf_ex (s := if mkL p = m then 0 else 1000) (ok := may m φ (mkL p) (p.headD 0)) (w := fun g => rsn m E (mkL p) g + X (mkL p ||| 2 ^ g) g) 8 with e | ⟨g, h1, h2, h3⟩
      · rw [if_neg (h.ne hm)] at e
        unfold vlt at hv
        rw [if_neg (h.ne hm)] at hv
        omega
      · refine ⟨g, h1, ?_⟩
        unfold nxo
        rw [h2, Bool.true_and]
        exact decide_eq_true (h3.symm.trans hv.symm)
    obtain ⟨g2, hg28, hg2⟩ := hex
    obtain ⟨f1, f2⟩ := ffs_sp (dt := p.headD 0) hg2 8 0 (Nat.zero_le _) (by omega)
    have hmin : ∀ g', g' < 8 → nxo m φ E X (mkL p) (p.headD 0) g' = true → ffs (nxo m φ E X (mkL p) (p.headD 0)) (p.headD 0) 8 0 ≤ g' := fun g' h8 hg' => (ffs_sp (dt := p.headD 0) hg' 8 0 (Nat.zero_le _) (by omega)).2
    show Cp m p (ffs (nxo m φ E X (mkL p) (p.headD 0)) (p.headD 0) 8 0 :: gl m φ E X d (mkL (ffs (nxo m φ E X (mkL p) (p.headD 0)) (p.headD 0) 8 0 :: p)) (ffs (nxo m φ E X (mkL p) (p.headD 0)) (p.headD 0) 8 0)) ∧ kp φ p (ffs (nxo m φ E X (mkL p) (p.headD 0)) (p.headD 0) 8 0 :: gl m φ E X d (mkL (ffs (nxo m φ E X (mkL p) (p.headD 0)) (p.headD 0) 8 0 :: p)) (ffs (nxo m φ E X (mkL p) (p.headD 0)) (p.headD 0) 8 0)) ∧ cs E p (ffs (nxo m φ E X (mkL p) (p.headD 0)) (p.headD 0) 8 0 :: gl m φ E X d (mkL (ffs (nxo m φ E X (mkL p) (p.headD 0)) (p.headD 0) 8 0 :: p)) (ffs (nxo m φ E X (mkL p) (p.headD 0)) (p.headD 0) 8 0)) = X (mkL p) (p.headD 0) ∧ ∀ t', Cp m p t' → kp φ p t' → cs E p t' = X (mkL p) (p.headD 0) → rzv (ffs (nxo m φ E X (mkL p) (p.headD 0)) (p.headD 0) 8 0 :: gl m φ E X d (mkL (ffs (nxo m φ E X (mkL p) (p.headD 0)) (p.headD 0) 8 0 :: p)) (ffs (nxo m φ E X (mkL p) (p.headD 0)) (p.headD 0) 8 0)) ≤ rzv t'
    generalize ffs (nxo m φ E X (mkL p) (p.headD 0)) (p.headD 0) 8 0 = g at f1 f2 hmin ⊢
    have hn := f1
    unfold nxo at hn
    rw [Bool.and_eq_true, decide_eq_true_eq] at hn
    obtain ⟨hmay, hw⟩ := hn
    have hmm := (may_iff hφ hm).mp hmay
    have hgp : g ∉ p := fun z => by
      have := hmm.2.1
      rw [mkL_tb, decide_eq_true z] at this
      cases this
    have hgt : g ∈ g1 :: t := h.or hm hmm.1 hgp
    have hpe : (g1 :: t).Perm (g :: (g1 :: t).erase g) := List.perm_cons_erase hgt
    have hc : Cp m p (g :: (g1 :: t).erase g) := ((List.perm_append_left_iff p).mpr hpe.symm).trans h
    have hlen : ((g1 :: t).erase g).length = d := by
      have := hpe.length_eq
      rw [List.length_cons (a := g), hl] at this
      omega
    have hx2 : X (mkL (g :: p)) ((g :: p).headD 0) < 1000 := by
      show X (mkL p ||| 2 ^ g) g < 1000
      omega
    obtain ⟨i1, i2, i3, i4⟩ := seat_gr hm hφ tb d (g :: p) _ hlen hc.mv hx2
    have i1 : Cp m (g :: p) (gl m φ E X d (mkL (g :: p)) g) := i1
    have i2 : kp φ (g :: p) (gl m φ E X d (mkL (g :: p)) g) := i2
    have i3 : cs E (g :: p) (gl m φ E X d (mkL (g :: p)) g) = X (mkL (g :: p)) g := i3
    have i4 : ∀ t', Cp m (g :: p) t' → kp φ (g :: p) t' → cs E (g :: p) t' = X (mkL (g :: p)) g → rzv (gl m φ E X d (mkL (g :: p)) g) ≤ rzv t' := i4
    have hw : rsn m E (mkL p) g + X (mkL (g :: p)) g = X (mkL p) (p.headD 0) := hw
    have hcG : Cp m p (g :: gl m φ E X d (mkL (g :: p)) g) := List.perm_middle.trans i1
    have hkg := (may_cp hm hφ hcG).mp hmay
    refine ⟨hcG, ⟨hkg, i2⟩, ?_, fun t' c' k' e' => ?_⟩
    · show min _ _ + cs E (g :: p) _ = _
      rw [← cp_rs hm hcG, i3]
      exact hw
    · match t', c', k', e' with
      | [], c', _, _ =>
        have h1 := c'.length_eq
        have h2 := h.length_eq
        rw [List.length_append] at h1 h2
        rw [List.length_cons] at h2
        rw [List.length_nil] at h1
        omega
      | g' :: t'', c', k', e' =>
        have e' : min _ _ + cs E (g' :: p) t'' = _ := e'
        rw [← cp_rs hm c'] at e'
        have l1 := tb_le hm hφ tb c' k'.1
        have l2 : X (mkL (g' :: p)) g' ≤ cs E (g' :: p) t'' := seat_lb hm hφ tb t'' (g' :: p) c'.mv k'.2
        have h8 := c'.t8 hm g' List.mem_cons_self
        have hle := hmin g' h8 (by
          unfold nxo
          rw [(may_cp hm hφ c').mpr k'.1, Bool.true_and]
          refine decide_eq_true ?_
          show rsn m E (mkL p) g' + X (mkL (g' :: p)) g' = _
          omega)
        have hll : (gl m φ E X d (mkL (g :: p)) g).length = t''.length := by
          have h1 := hcG.length_eq
          have h2 := c'.length_eq
          rw [List.length_append, List.length_cons] at h1 h2
          omega
        rcases Nat.lt_or_eq_of_le hle with q | q
        · exact Nat.le_of_lt (rzv_hd q hll (fun z hz => hcG.t8 hm z (List.mem_cons_of_mem _ hz)))
        · subst q
          exact rzv_cons hll (i4 t'' c'.mv k'.2 (by omega))
end SQ
