/-! ===== SEATING: the class's answer ===== -/
section SD
variable {m : Nat} {φ E : Nat → Nat}
theorem seat_step {X : Nat → Nat → Nat} (hm : m < 256) (hφ : ∀ g, g < 8 → φ g < 256) (tb : TB m φ E X) {p t : List Nat} {g1 : Nat} (h : Cp m p (g1 :: t)) (hx : X (mkL p) (p.headD 0) < 1000) : ffs (nxo m φ E X (mkL p) (p.headD 0)) (p.headD 0) 8 0 < 8 ∧ X (mkL (ffs (nxo m φ E X (mkL p) (p.headD 0)) (p.headD 0) 8 0 :: p)) (ffs (nxo m φ E X (mkL p) (p.headD 0)) (p.headD 0) 8 0) < 1000 ∧ ∃ t', t'.length = t.length ∧ Cp m (ffs (nxo m φ E X (mkL p) (p.headD 0)) (p.headD 0) 8 0 :: p) t' := by
  have hv := tb _ (h.lt hm) (h.subh hm) _ (hd8 (h.p8 hm))
  have hex : ∃ g, g < 8 ∧ nxo m φ E X (mkL p) (p.headD 0) g = true := by
    rcases lsf_ex (s := if mkL p = m then 0 else 1000) (ok := may m φ (mkL p) (p.headD 0)) (w := fun g => rsn m E (mkL p) g + X (mkL p ||| 2 ^ g) g) 8 with e | ⟨g, h1, h2, h3⟩
    · rw [if_neg (h.ne hm)] at e
      unfold vlt at hv
      rw [if_neg (h.ne hm)] at hv
      omega
    · refine ⟨g, h1, ?_⟩
      unfold nxo
      rw [h2, Bool.true_and]
      exact decide_eq_true (h3.symm.trans hv.symm)
  obtain ⟨g2, hg28, hg2⟩ := hex
  obtain ⟨f1, f2⟩ := ffs_sp (dt := p.headD 0) hg2 8 0 (Nat.zero_le _) (by omega)
  generalize ffs (nxo m φ E X (mkL p) (p.headD 0)) (p.headD 0) 8 0 = g at f1 f2 ⊢
  have hn := f1
  unfold nxo at hn
  rw [Bool.and_eq_true, decide_eq_true_eq] at hn
  obtain ⟨hmay, hw⟩ := hn
  have hmm := (may_iff hφ hm).mp hmay
  have hgp : g ∉ p := fun z => by
    have := hmm.2.1
    rw [mkL_tb, decide_eq_true z] at this
    cases this
  have hgt : g ∈ g1 :: t := h.or hm hmm.1 hgp
  have hpe : (g1 :: t).Perm (g :: (g1 :: t).erase g) := List.perm_cons_erase hgt
  have hc : Cp m p (g :: (g1 :: t).erase g) := ((List.perm_append_left_iff p).mpr hpe.symm).trans h
  refine ⟨by omega, ?_, (g1 :: t).erase g, ?_, hc.mv⟩
  · show X (mkL p ||| 2 ^ g) g < 1000
    omega
  · have := hpe.length_eq
    rw [List.length_cons, List.length_cons] at this
    omega
theorem cmL_len {m : Nat} : (cmL m).length = pcn m := List.countP_eq_length_filter.symm
theorem c_guestOnSeat {μ : Mm} {K : MV → Mm → Prop} {x : Int32} (hm : m < 256) (hφ : ∀ g, g < 8 → φ g < 256) (e5 : μ 3 5 = nI m) (ef : ∀ g, g < 8 → μ 8 g = nI (φ g)) (e9 : ∀ g, g < 8 → μ 49 g = nI (ltr m E g)) (tb : TBm m φ E (μ 48) 0) : ∀ (d k : Nat) (p t : List Nat), t.length = d → k + d = pcn m → Cp m p t → mX (μ 48) (mkL p) (p.headD 0) < 1000 →
    (∀ j, j < d → x = nI (k + j) → K (mI (nI (rg (gl m φ E (mX (μ 48)) d (mkL p) (p.headD 0)) j))) μ) → ((∀ j, j < d → ¬ x = nI (k + j)) → K (mI (-6)) μ) →
    Tot e_X6_guestOnSeat K 8 [mO 5 47, mO 7 3, mI x, mI (nI (mkL p)), mI (nI (p.headD 0)), mI (nI k)] [] μ := by
  have h8 : pcn m ≤ 8 := pcn_le
  intro d
  induction d with
  | zero =>
    intro k p t ht hk hc hx hy hn
    refine g_X6_guestOnSeat_8 ?_
    rw [e5]
    refine c_bitCount hm ?_
    rw [vI_mI, bits_cb, cb_pc m hm, if_pos (nI_le (by omega) (by omega))]
    exact hn (fun j hj => absurd hj (Nat.not_lt_zero j))
  | succ d ih =>
    intro k p t ht hk hc hx hy hn
    refine g_X6_guestOnSeat_8 ?_
    rw [e5]
    refine c_bitCount hm ?_
    rw [vI_mI, bits_cb, cb_pc m hm, if_neg (nI_ge (by omega) (by omega))]
    match t, ht, hc with
    | [], ht, _ => cases ht
    | g1 :: t, ht, hc =>
      have hsub : sbs m (mkL p) := hc.subh hm
      refine c_firstOf (m := m) (φ := φ) (E := E) (X := mX (μ 48)) hm e5 ef e9 (hc.lt hm) (hd8 (hc.p8 hm)) (tb.at (Nat.zero_le _) (hc.lt hm) hsub (hd8 (hc.p8 hm))) (fun g hg hmy => tb.at (Nat.zero_le _) (or_up _ (hc.lt hm) g hg).1 (sbs_or hsub (may_m hmy).1) hg) ?_
      rw [vI_mI]
      obtain ⟨s1, s2, t', s3, s4⟩ := seat_step hm hφ tb.tb hc hx
      have hgl : gl m φ E (mX (μ 48)) (d + 1) (mkL p) (p.headD 0) = ffs (nxo m φ E (mX (μ 48)) (mkL p) (p.headD 0)) (p.headD 0) 8 0 :: gl m φ E (mX (μ 48)) d (mkL (ffs (nxo m φ E (mX (μ 48)) (mkL p) (p.headD 0)) (p.headD 0) 8 0 :: p)) (ffs (nxo m φ E (mX (μ 48)) (mkL p) (p.headD 0)) (p.headD 0) 8 0) := rfl
      rw [hgl] at hy
      generalize ffs (nxo m φ E (mX (μ 48)) (mkL p) (p.headD 0)) (p.headD 0) 8 0 = g at s1 s2 s4 hy ⊢
      by_cases q : nI k = x
      · rw [if_pos q]
        exact hy 0 (by omega) q.symm
      · rw [if_neg q, or_I s1, nI_1]
        have hl : t'.length = d := by rw [List.length_cons] at ht; omega
        exact ih (k + 1) (g :: p) t' hl (by omega) s4 s2 (fun j hj e => hy (j + 1) (by omega) (by rw [e]; congr 1; omega)) (fun H => hn (fun j hj => by
          by_cases e : j = 0
          · rw [e]; exact fun z => q z.symm
          · have := H (j - 1) (by omega)
            rw [show k + 1 + (j - 1) = k + j by omega] at this
            exact this))
def sAn (m : Nat) (E : Nat → Nat) (o : Option (List Nat)) (x : Int32) : Int32 := match o with
  | none => -6
  | some b => if x = -1 then nI (cs E [] b) else bif decide (0 ≤ x ∧ x ≤ nI (pcn m) - 1) then nI (rg b x.toNatClampNeg) else -6
theorem x_in {x : Int32} {n : Nat} (hn : n ≤ 8) : (0 ≤ x ∧ x ≤ nI n - 1) ↔ ∃ j, j < n ∧ x = nI j := by
  constructor
  · intro ⟨h1, h2⟩
    match n, hn, h2 with
    | 0, _, h2 => exact absurd (Int32.le_trans h1 h2) (by decide)
    | n + 1, hn, h2 =>
      rw [nI_pred] at h2
      obtain ⟨k, hk, e⟩ := nI_btw (by omega) h1 h2
      exact ⟨k, by omega, e⟩
  · intro ⟨j, hj, e⟩
    subst e
    refine ⟨nI_pos' (by omega), ?_⟩
    rw [show nI n = nI ((n - 1) + 1) by rw [show n - 1 + 1 = n by omega], nI_pred]
    exact nI_le (by omega) (by omega)
theorem c_seated {μ : Mm} {K : MV → Mm → Prop} {x : Int32} (hm : m < 256) (hφ : ∀ g, g < 8 → φ g < 256) (e5 : μ 3 5 = nI m) (ef : ∀ g, g < 8 → μ 8 g = nI (φ g)) (hw : Wb (vS μ 3)) (hE : LV (vS μ 3) = E) (hK : ∀ o μ', rzB (kp φ []) (fun s => (cs E [] s : Int)) (fun s => s.Perm (cmL m)) o → AgX μ μ' → K (mI (sAn m E o x)) μ') : s_X6_seated [mO 5 47, mO 7 3, mI x] μ K := by
  have h8 : pcn m ≤ 8 := pcn_le
  refine g_X6_seated (c_readLater hm e5 hw ?_)
  rw [hE]
  generalize hμ1 : mW μ 49 (Fi (fun g => nI (ltr m E g)) (μ 49) 8) = μ1
  have ag1 : AgX μ μ1 := fun c k e => by rw [← hμ1, mW_c (fun z => by rw [z] at e; cases e)]
  have e9 : ∀ g, g < 8 → μ1 49 g = nI (ltr m E g) := fun g hg => by rw [← hμ1, mW_eq, Fi_lt hg]
  have e5' : μ1 3 5 = nI m := by rw [ag1 3 5 rfl, e5]
  have ef' : ∀ g, g < 8 → μ1 8 g = nI (φ g) := fun g hg => by rw [ag1 8 g rfl, ef g hg]
  have lp : ∀ lo, lo ≤ m + 1 → ∀ μ', (∀ c, c ≠ 48 → μ' c = μ1 c) → TBm m φ E (μ' 48) lo → Tot e_X6_seated K 10 [mO 5 47, mO 7 3, mI x, mI (nI lo + (-1))] [] μ' := by
    intro lo
    induction lo with
    | zero =>
      intro _ μ' hμ tb
      have ag : AgX μ μ' := ag1.tr (fun c k e => by rw [hμ c (fun z => by rw [z] at e; cases e)])
      have e5'' : μ' 3 5 = nI m := by rw [hμ 3 (by decide), e5']
      have c0 : Cp m [] (cmL m) := List.Perm.refl _
      have hX0 := tb.at (l := 0) (Nat.zero_le 0) (show 0 < 256 by decide) (fun h _ q => by rw [Nat.zero_testBit] at q; cases q) (by decide)
      refine g_X6_seated_10 ?_
      rw [if_pos (show nI 0 + (-1) < 0 by decide)]
      refine c_fewestBehind (L := 0) (l := 0) (by decide) (by decide) ?_
      rw [vI_mI, hX0.1]
      have hx00 : mX (μ' 48) (mkL []) (([] : List Nat).headD 0) = mX (μ' 48) 0 0 := rfl
      by_cases q : mX (μ' 48) 0 0 < 1000
      · rw [if_pos (show nI (mX (μ' 48) 0 0) < 1000 from nI_lt (b := 1000) q (by decide))]
        obtain ⟨g1, g2, g3, g4⟩ := seat_gr hm hφ tb.tb (pcn m) [] (cmL m) cmL_len c0 q
        have hB : rzB (kp φ []) (fun s => (cs E [] s : Int)) (fun s => s.Perm (cmL m)) (some (gl m φ E (mX (μ' 48)) (pcn m) (mkL []) (([] : List Nat).headD 0))) := by
          refine ⟨g1, g2, fun s hs ho => ?_⟩
          have l := seat_lb hm hφ tb.tb s [] hs ho
          rcases Nat.lt_or_eq_of_le l with z | z
          · left
            show (cs E [] _ : Int) < (cs E [] s : Int)
            rw [g3]
            exact Int.ofNat_lt.mpr z
          · right
            refine ⟨?_, g4 s hs ho z.symm⟩
            show (cs E [] _ : Int) = (cs E [] s : Int)
            rw [g3, z]
        have hK := hK _ μ' hB ag
        unfold sAn at hK
        simp only at hK
        by_cases ex : x = -1
        · rw [if_pos ex]
          rw [if_pos ex, g3] at hK
          exact hK
        · rw [if_neg ex]
          rw [if_neg ex] at hK
          refine g_X6_guestOnSeat ?_
          refine c_guestOnSeat (m := m) (φ := φ) (E := E) hm hφ e5'' (fun g hg => by rw [hμ 8 (by decide), ef' g hg]) (fun g hg => by rw [hμ 49 (by decide), e9 g hg]) tb (pcn m) 0 [] (cmL m) cmL_len (by omega) c0 q (fun j hj e => ?_) (fun H => ?_)
          · rw [Nat.zero_add] at e
            rw [decide_eq_true ((x_in h8).mpr ⟨j, hj, e⟩), cond_true, e, nI_clamp (by omega)] at hK
            rw [vI_mI]
            exact hK
          · rw [decide_eq_false (fun z => by
              obtain ⟨j, hj, e⟩ := (x_in h8).mp z
              have := H j hj
              rw [Nat.zero_add] at this
              exact this e), cond_false] at hK
            exact hK
      · rw [if_neg (show ¬ nI (mX (μ' 48) 0 0) < 1000 from nI_nlt (a := mX (μ' 48) 0 0) (b := 1000) (by omega) (by have := hX0.2; omega))]
        refine hK none μ' (fun s hs ho => ?_) ag
        have l := seat_lb hm hφ tb.tb s [] hs ho
        have l2 := cs_le (E := E) s []
        have l3 : s.length ≤ 8 := by rw [(show s.Perm _ from hs).length_eq, cmL_len]; exact h8
        have l4 : s.length * s.length ≤ 8 * 8 := Nat.mul_le_mul l3 l3
        rw [List.length_nil, Nat.zero_mul] at l2
        rw [hx00] at l
        omega
    | succ lo ih =>
      intro hlo μ' hμ tb
      have e5'' : μ' 3 5 = nI m := by rw [hμ 3 (by decide), e5']
      refine g_X6_seated_10 ?_
      rw [nI_m1, if_neg (nI_pos (by omega)), e5'']
      by_cases q : nI lo &&& (nI m ^^^ (-1 : Int32)) = 0
      · rw [if_pos q]
        have hs : sbs m lo := (andn (by omega)).mp q
        refine c_fillBehind (m := m) (φ := φ) (E := E) hm e5'' (fun g hg => by rw [hμ 8 (by decide), ef' g hg]) (fun g hg => by rw [hμ 49 (by decide), e9 g hg]) (by omega) hs tb ?_
        exact ih (by omega) _ (fun c h => by rw [mW_c h]; exact hμ c h) (by rw [mW_eq]; exact tb.put (by omega))
      · rw [if_neg q]
        refine ih (by omega) μ' hμ (fun L h1 h2 h3 l hl => ?_)
        by_cases e : L = lo
        · subst e
          exact absurd ((andn (by omega)).mpr h3) q
        · exact tb L (by omega) h2 h3 l hl
  have := lp (m + 1) (Nat.le_refl _) μ1 (fun c _ => rfl) (fun L h1 h2 h3 l hl => by
    have := sub_le m hm L h2 (decide_eq_true ((andn h2).mpr h3))
    omega)
  rw [nI_m1] at this
  rw [e5']
  exact this
end SD
