/-! ===== SEATING: the class ===== -/
section SC
variable {μ : Mm} {K : MV → Mm → Prop} {m : Nat} {φ E : Nat → Nat}
theorem cm_8 {c : Nat} (hm : m < 256) (e5 : μ c 5 = nI m) {g : Nat} (hg : g < 8) : cmB (vS μ c) (nI g) = m.testBit g := by
  rw [cmB_8 hg, ← bbN m hm g hg, ← e5]
  rfl
theorem c_readLater (hm : m < 256) (e5 : μ 3 5 = nI m) (hw : Wb (vS μ 3)) (hK : K mU (mW μ 49 (Fi (fun g => nI (ltr m (LV (vS μ 3)) g)) (μ 49) 8))) : s_X6_readLater [mO 5 47, mO 7 3] μ K := by
  refine g_X6_readLater ?_
  have lp : ∀ (d g : Nat) (z1 z2 : MV), g + d = 8 → Tot e_X6_readLater K 2 [mO 5 47, mO 7 3, mI (nI g), z1, z2] [] (mW μ 49 (Fi (fun g => nI (ltr m (LV (vS μ 3)) g)) (μ 49) g)) := by
    intro d
    induction d with
    | zero =>
      intro g z1 z2 hg
      have e : g = 8 := by omega
      subst e
      refine g_X6_readLater_2 ?_
      rw [if_pos (by decide)]
      exact hK
    | succ d ih =>
      intro g z1 z2 hg
      refine g_X6_readLater_2 ?_
      rw [if_neg (show ¬ (8 : Int32) ≤ nI g from nI_ge (b := 8) (by omega) (by omega))]
      have ev : vS (mW μ 49 (Fi (fun g => nI (ltr m (LV (vS μ 3)) g)) (μ 49) g)) 3 = vS μ 3 := vS_congr fun d hd => mW_c (by omega)
      have e5' : mW μ 49 (Fi (fun g => nI (ltr m (LV (vS μ 3)) g)) (μ 49) g) 3 5 = nI m := by rw [mW_c (by decide), e5]
      have inner : ∀ (d' h : Nat), h + d' = 8 → Tot e_X6_readLater K 13 [mO 5 47, mO 7 3, mI (nI g), mI (nI (mkN (fun h => m.testBit h && decide (LV (vS μ 3) g < LV (vS μ 3) h)) h)), mI (nI h)] [] (mW μ 49 (Fi (fun g => nI (ltr m (LV (vS μ 3)) g)) (μ 49) g)) := by
        intro d'
        induction d' with
        | zero =>
          intro h hh
          have e : h = 8 := by omega
          subst e
          refine g_X6_readLater_13 ?_
          rw [if_pos (by decide)]
          refine c_put (by omega) (by decide) ?_
          have := ih (g + 1) (mI (nI (mkN (fun h => m.testBit h && decide (LV (vS μ 3) g < LV (vS μ 3) h)) 8))) (mI (nI 8)) (by omega)
          rw [← nI_1] at this
          have hw2 : mS (mW μ 49 (Fi (fun g => nI (ltr m (LV (vS μ 3)) g)) (μ 49) g)) 49 g (nI (mkN (fun h => m.testBit h && decide (LV (vS μ 3) g < LV (vS μ 3) h)) 8)) = mW μ 49 (Fi (fun g => nI (ltr m (LV (vS μ 3)) g)) (μ 49) (g + 1)) := mW_st Fi_at (fun k hk => Fi_ne hk)
          rw [hw2]
          exact this
        | succ d' ih' =>
          intro h hh
          refine g_X6_readLater_13 ?_
          rw [if_neg (show ¬ (8 : Int32) ≤ nI h from nI_ge (b := 8) (by omega) (by omega))]
          refine c_comes ?_
          have hs : mkN (fun h => m.testBit h && decide (LV (vS μ 3) g < LV (vS μ 3) h)) (h + 1) = mkN (fun h => m.testBit h && decide (LV (vS μ 3) g < LV (vS μ 3) h)) h ||| (bif m.testBit h && decide (LV (vS μ 3) g < LV (vS μ 3) h) then 2 ^ h else 0) := rfl
          have := ih' (h + 1) (by omega)
          rw [← nI_1, hs] at this
          rw [vI_mI, ite_b, cm_8 hm e5' (by omega)]
          cases hb : m.testBit h with
          | false =>
            rw [hb, Bool.false_and, cond_false, Nat.or_zero] at this
            exact this
          | true =>
            rw [hb, Bool.true_and] at this
            rw [cond_true]
            refine c_behind (by rw [ev]; exact hw) (by omega) (c_behind (by rw [ev]; exact hw) (by omega) ?_)
            rw [vI_mI, vI_mI, ev]
            have b1 : LV (vS μ 3) h ≤ 6 := Nat.le_trans LV_le hw.1.2.1
            have b2 : LV (vS μ 3) g ≤ 6 := Nat.le_trans LV_le hw.1.2.1
            by_cases q : LV (vS μ 3) h ≤ LV (vS μ 3) g
            · rw [decide_eq_false (by omega), cond_false, Nat.or_zero] at this
              rw [if_pos (nI_le q (by omega))]
              exact this
            · rw [decide_eq_true (by omega), cond_true] at this
              rw [if_neg (nI_ge (by omega) (by omega)), or_I (by omega)]
              exact this
      exact inner 8 0 rfl
  have := lp 8 0 mU mU rfl
  rw [Fi_0, mW_id rfl] at this
  exact this
theorem c_maySit {L l g : Nat} (hm : m < 256) (e5 : μ 3 5 = nI m) (ef : μ 8 g = nI (φ g)) (hL : L < 256) (hl : l < 8) (hg : g < 8) (hK : K (mI (bI (may m φ L l g))) μ) : s_X6_maySit [mO 7 3, mI (nI L), mI (nI l), mI (nI g)] μ K := by
  refine g_X6_maySit (c_at hg (by decide) (c_comes ?_))
  rw [vI_mI, ite_b, cm_8 hm e5 hg, vI_mI, show (3 + 5 : Nat) = 8 from rfl, ef, shl8 l hl, ← nI_and]
  unfold may at hK
  cases hb : m.testBit g with
  | false =>
    rw [hb] at hK
    exact ⟨zb0, hK⟩
  | true =>
    rw [hb, Bool.true_and] at hK
    rw [cond_true]
    have hLb := bbN L hL g hg
    split
    · rename_i q
      have : L.testBit g = false := by rw [← hLb]; unfold bb; rw [q]; rfl
      rw [this, Bool.not_false, Bool.true_and] at hK
      split
      · rename_i q2
        rw [decide_eq_true q2] at hK
        exact ⟨zb1, hK⟩
      · rename_i q2
        rw [decide_eq_false q2] at hK
        exact ⟨zb0, hK⟩
    · rename_i q
      have : L.testBit g = true := by rw [← hLb]; unfold bb; rw [and1_ne0 q]; rfl
      rw [this, Bool.not_true, Bool.false_and] at hK
      exact ⟨zb0, hK⟩
theorem c_fewestBehind {L l : Nat} (hL : L < 256) (hl : l < 8) (hK : K (mI (μ 48 (8 * L + l))) μ) : s_X6_fewestBehind [mO 5 47, mI (nI L), mI (nI l)] μ K := by
  refine g_X6_fewestBehind ?_
  rw [show nI L * 8 + nI l = nI (8 * L + l) by rw [show nI L * (8 : Int32) = nI L * nI 8 from rfl, nI_mul, nI_add, Nat.mul_comm]]
  refine c_at (by omega) (by decide) ?_
  rw [vI_mI]
  exact hK
theorem pcn_le {x : Nat} : pcn x ≤ 8 := by
  have : pcn x ≤ (List.range 8).length := List.countP_le_length
  rw [List.length_range] at this
  exact this
theorem rsn_le {L g : Nat} : rsn m E L g ≤ 8 := by
  unfold rsn
  split
  · exact pcn_le
  · exact pcn_le
theorem c_fewestWith {L g y : Nat} (e9 : μ 49 g = nI (ltr m E g)) (hL : L < 256) (hg : g < 8) (hy : μ 48 (8 * (L ||| 2 ^ g) + g) = nI y) (hK : K (mI (nI (rsn m E L g + y))) μ) : s_X6_fewestWith [mO 5 47, mI (nI L), mI (nI g)] μ K := by
  have hl : ltr m E g < 256 := mkN_lt 8 (Nat.le_refl _)
  refine g_X6_fewestWith (c_at hg (by decide) ?_)
  rw [vI_mI, e9, ← nI_and, nI_not, ← nI_and, or_I hg]
  have b1 : ltr m E g &&& L < 256 := Nat.lt_of_le_of_lt Nat.and_le_left hl
  have b2 : ltr m E g &&& (L ^^^ 4294967295) < 256 := Nat.lt_of_le_of_lt Nat.and_le_left hl
  refine c_bitCount b1 (c_bitCount b2 (c_fewestBehind (or_up L hL g hg).1 hg ?_))
  rw [hy, vI_mI, vI_mI, vI_mI, bits_cb, bits_cb, cb_pc _ b1, cb_pc _ b2]
  have c1 : pcn (ltr m E g &&& L) ≤ 8 := pcn_le
  have c2 : pcn (ltr m E g &&& (L ^^^ 4294967295)) ≤ 8 := pcn_le
  unfold rsn at hK
  by_cases q : pcn (ltr m E g &&& (L ^^^ 4294967295)) < pcn (ltr m E g &&& L)
  · rw [if_pos q] at hK
    rw [if_pos (nI_lt q (by omega)), nI_add]
    exact hK
  · rw [if_neg q] at hK
    rw [if_neg (nI_nlt (by omega) (by omega)), nI_add]
    exact hK
/-- the table, as memory holds it -/
def mX (X : Nat → Int32) (L l : Nat) : Nat := (X (8 * L + l)).toNatClampNeg
def sbs (m L : Nat) : Prop := ∀ h, h < 8 → L.testBit h = true → m.testBit h = true
theorem sbs_or {L g : Nat} (h : sbs m L) (hg : m.testBit g = true) : sbs m (L ||| 2 ^ g) := fun k hk hb => by
  rw [Nat.testBit_or, Nat.testBit_two_pow, Bool.or_eq_true, decide_eq_true_eq] at hb
  rcases hb with q | q
  · exact h k hk q
  · rw [← q]; exact hg
theorem may_m {L l g : Nat} (h : may m φ L l g = true) : m.testBit g = true ∧ L.testBit g = false := by
  unfold may at h
  rw [Bool.and_eq_true, Bool.and_eq_true] at h
  refine ⟨h.1.1, ?_⟩
  cases hb : L.testBit g with
  | false => rfl
  | true => rw [hb] at h; cases h.1.2
theorem vlt_le {X : Nat → Nat → Nat} {L l : Nat} : vlt m φ E X L l ≤ 1000 := by
  have := lsf_s (s := if L = m then 0 else 1000) (ok := may m φ L l) (w := fun g => rsn m E L g + X (L ||| 2 ^ g) g) 8
  unfold vlt
  refine Nat.le_trans this ?_
  split <;> omega
theorem lsf_cg {s : Nat} {ok : Nat → Bool} {w w' : Nat → Nat} : ∀ k, (∀ g, g < k → ok g = true → w g = w' g) → lsf s ok w k = lsf s ok w' k
  | 0, _ => rfl
  | k + 1, h => by
    unfold lsf
    rw [lsf_cg k (fun g hg => h g (by omega))]
    cases hk : ok k with
    | false => rfl
    | true => rw [h k (by omega) hk]
/-- the table stands from lo on -/
def TBm (m : Nat) (φ E : Nat → Nat) (X : Nat → Int32) (lo : Nat) : Prop := ∀ L, lo ≤ L → L < 256 → sbs m L → ∀ l, l < 8 → X (8 * L + l) = nI (vlt m φ E (mX X) L l)
theorem TBm.at {X : Nat → Int32} {lo L l : Nat} (h : TBm m φ E X lo) (h1 : lo ≤ L) (h2 : L < 256) (h3 : sbs m L) (hl : l < 8) : X (8 * L + l) = nI (mX X L l) ∧ mX X L l ≤ 1000 := by
  have e := h L h1 h2 h3 l hl
  have b : vlt m φ E (mX X) L l ≤ 1000 := vlt_le
  have e2 : mX X L l = vlt m φ E (mX X) L l := by
    show (X (8 * L + l)).toNatClampNeg = _
    rw [e, nI_clamp (by omega)]
  rw [e2]
  exact ⟨e, b⟩
theorem TBm.tb {X : Nat → Int32} (h : TBm m φ E X 0) : TB m φ E (mX X) := fun L hL hs l hl => by
  have e := h L (Nat.zero_le _) hL hs l hl
  have b : vlt m φ E (mX X) L l ≤ 1000 := vlt_le
  show (X (8 * L + l)).toNatClampNeg = _
  rw [e, nI_clamp (by omega)]
def WL (X : Nat → Int32) (L : Nat) (v : Nat → Nat) (i : Nat) : Nat → Int32 := fun k => if 8 * L ≤ k ∧ k < 8 * L + i then nI (v (k - 8 * L)) else X k
theorem WL_hi {X : Nat → Int32} {L : Nat} {v : Nat → Nat} {i k : Nat} (hi : i ≤ 8) (h : 8 * L + 8 ≤ k) : WL X L v i k = X k := if_neg (by omega)
theorem WL_lo {X : Nat → Int32} {L : Nat} {v : Nat → Nat} {l : Nat} (h : l < 8) : WL X L v 8 (8 * L + l) = nI (v l) := by
  unfold WL
  rw [if_pos (by omega), show 8 * L + l - 8 * L = l by omega]
theorem TBm.put {X : Nat → Int32} {L : Nat} (hL : L < 256) (h : TBm m φ E X (L + 1)) : TBm m φ E (WL X L (fun l => vlt m φ E (mX X) L l) 8) L := by
  have hc : ∀ L', L ≤ L' → L' < 256 → ∀ l, vlt m φ E (mX (WL X L (fun l => vlt m φ E (mX X) L l) 8)) L' l = vlt m φ E (mX X) L' l := fun L' h1 h2 l => by
    refine lsf_cg 8 fun g hg hok => ?_
    have hm := (may_m hok).2
    have := (or_up L' h2 g hg).2 hm
    show rsn m E L' g + (WL X L (fun l => vlt m φ E (mX X) L l) 8 (8 * (L' ||| 2 ^ g) + g)).toNatClampNeg = rsn m E L' g + (X (8 * (L' ||| 2 ^ g) + g)).toNatClampNeg
    rw [WL_hi (by omega) (by omega)]
  intro L' h1 h2 h3 l hl
  rw [hc L' h1 h2 l]
  by_cases e : L' = L
  · rw [e, WL_lo hl]
  · rw [WL_hi (by omega) (by omega)]
    exact h L' (by omega) h2 h3 l hl
theorem c_fillBehind {L : Nat} (hm : m < 256) (e5 : μ 3 5 = nI m) (ef : ∀ g, g < 8 → μ 8 g = nI (φ g)) (e9 : ∀ g, g < 8 → μ 49 g = nI (ltr m E g)) (hL : L < 256) (hs : sbs m L) (tb : TBm m φ E (μ 48) (L + 1)) (hK : K mU (mW μ 48 (WL (μ 48) L (fun l => vlt m φ E (mX (μ 48)) L l) 8))) : s_X6_fillBehind [mO 5 47, mO 7 3, mI (nI L)] μ K := by
  refine g_X6_fillBehind ?_
  have lp : ∀ (d l : Nat) (z1 z2 : MV), l + d = 8 → Tot e_X6_fillBehind K 2 [mO 5 47, mO 7 3, mI (nI L), mI (nI l), z1, z2] [] (mW μ 48 (WL (μ 48) L (fun l => vlt m φ E (mX (μ 48)) L l) l)) := by
    intro d
    induction d with
    | zero =>
      intro l z1 z2 hl
      have e : l = 8 := by omega
      subst e
      refine g_X6_fillBehind_2 ?_
      rw [if_pos (by decide)]
      exact hK
    | succ d ih =>
      intro l z1 z2 hl
      have inner : ∀ (d' k : Nat), k + d' = 8 → Tot e_X6_fillBehind K 28 [mO 5 47, mO 7 3, mI (nI L), mI (nI l), mI (nI (lsf (if L = m then 0 else 1000) (may m φ L l) (fun g => rsn m E L g + mX (μ 48) (L ||| 2 ^ g) g) k)), mI (nI k)] [] (mW μ 48 (WL (μ 48) L (fun l => vlt m φ E (mX (μ 48)) L l) l)) := by
        intro d'
        induction d' with
        | zero =>
          intro k hk
          have e : k = 8 := by omega
          subst e
          refine g_X6_fillBehind_28 ?_
          rw [if_pos (by decide), show nI L * 8 + nI l = nI (8 * L + l) by rw [show nI L * (8 : Int32) = nI L * nI 8 from rfl, nI_mul, nI_add, Nat.mul_comm]]
          refine c_put (by omega) (by decide) ?_
          have := ih (l + 1) (mI (nI (lsf (if L = m then 0 else 1000) (may m φ L l) (fun g => rsn m E L g + mX (μ 48) (L ||| 2 ^ g) g) 8))) (mI (nI 8)) (by omega)
          rw [← nI_1] at this
          rw [mW_st (f' := WL (μ 48) L (fun l => vlt m φ E (mX (μ 48)) L l) (l + 1)) (by
            unfold WL
            rw [if_pos (by omega), show 8 * L + l - 8 * L = l by omega]
            rfl) (fun k hk => by
            unfold WL
            by_cases q : 8 * L ≤ k ∧ k < 8 * L + l
            · rw [if_pos q, if_pos (by omega)]
            · rw [if_neg q, if_neg (by omega)])]
          exact this
        | succ d' ih' =>
          intro k hk
          refine g_X6_fillBehind_28 ?_
          rw [if_neg (show ¬ (8 : Int32) ≤ nI k from nI_ge (b := 8) (by omega) (by omega))]
          refine c_maySit (m := m) (φ := φ) hm (by rw [mW_c (by decide), e5]) (by rw [mW_c (by decide), ef k (by omega)]) hL (by omega) (by omega) ?_
          have hlf : lsf (if L = m then 0 else 1000) (may m φ L l) (fun g => rsn m E L g + mX (μ 48) (L ||| 2 ^ g) g) (k + 1) = bif may m φ L l k then (if rsn m E L k + mX (μ 48) (L ||| 2 ^ k) k < lsf (if L = m then 0 else 1000) (may m φ L l) (fun g => rsn m E L g + mX (μ 48) (L ||| 2 ^ g) g) k then rsn m E L k + mX (μ 48) (L ||| 2 ^ k) k else lsf (if L = m then 0 else 1000) (may m φ L l) (fun g => rsn m E L g + mX (μ 48) (L ||| 2 ^ g) g) k) else lsf (if L = m then 0 else 1000) (may m φ L l) (fun g => rsn m E L g + mX (μ 48) (L ||| 2 ^ g) g) k := rfl
          have := ih' (k + 1) (by omega)
          rw [← nI_1, hlf] at this
          rw [vI_mI, ite_b]
          cases hmy : may m φ L l k with
          | false =>
            rw [hmy, cond_false] at this
            exact this
          | true =>
            rw [hmy, cond_true] at this
            rw [cond_true]
            have hmm := may_m hmy
            have hou := or_up L hL k (by omega)
            have hgt := hou.2 hmm.2
            obtain ⟨y1, y2⟩ := tb.at (l := k) (by omega : L + 1 ≤ L ||| 2 ^ k) hou.1 (sbs_or hs hmm.1) (by omega)
            refine c_fewestWith (m := m) (E := E) (y := mX (μ 48) (L ||| 2 ^ k) k) (by rw [mW_c (by decide), e9 k (by omega)]) hL (by omega) ?_ ?_
            · rw [mW_eq, WL_hi (by omega) (by omega), y1]
            · rw [vI_mI]
              have hr : rsn m E L k ≤ 8 := rsn_le
              have hb : lsf (if L = m then 0 else 1000) (may m φ L l) (fun g => rsn m E L g + mX (μ 48) (L ||| 2 ^ g) g) k ≤ 1000 := by
                refine Nat.le_trans (lsf_s k) ?_
                split <;> omega
              by_cases q : rsn m E L k + mX (μ 48) (L ||| 2 ^ k) k < lsf (if L = m then 0 else 1000) (may m φ L l) (fun g => rsn m E L g + mX (μ 48) (L ||| 2 ^ g) g) k
              · rw [if_pos q] at this
                rw [if_pos (nI_lt q (by omega))]
                exact this
              · rw [if_neg q] at this
                rw [if_neg (nI_nlt (by omega) (by omega))]
                exact this
      refine g_X6_fillBehind_2 ?_
      rw [if_neg (show ¬ (8 : Int32) ≤ nI l from nI_ge (b := 8) (by omega) (by omega)), mW_c (by decide), e5]
      have h0 := inner 8 0 rfl
      have hls : lsf (if L = m then 0 else 1000) (may m φ L l) (fun g => rsn m E L g + mX (μ 48) (L ||| 2 ^ g) g) 0 = if L = m then 0 else 1000 := rfl
      rw [hls] at h0
      by_cases q : L = m
      · rw [if_pos (show nI L = nI m by rw [q])]
        rw [if_pos q] at h0
        exact h0
      · rw [if_neg (fun z => q ((nI_eq (by omega) (by omega)).mp z))]
        rw [if_neg q] at h0
        exact h0
  have := lp 8 0 mU mU rfl
  have e0 : WL (μ 48) L (fun l => vlt m φ E (mX (μ 48)) L l) 0 = μ 48 := funext fun k => if_neg (by omega)
  rw [e0, mW_id rfl] at this
  exact this
theorem c_firstOf {X : Nat → Nat → Nat} {L l : Nat} (hm : m < 256) (e5 : μ 3 5 = nI m) (ef : ∀ g, g < 8 → μ 8 g = nI (φ g)) (e9 : ∀ g, g < 8 → μ 49 g = nI (ltr m E g)) (hL : L < 256) (hl : l < 8) (h0 : μ 48 (8 * L + l) = nI (X L l) ∧ X L l ≤ 1000) (h1 : ∀ g, g < 8 → may m φ L l g = true → μ 48 (8 * (L ||| 2 ^ g) + g) = nI (X (L ||| 2 ^ g) g) ∧ X (L ||| 2 ^ g) g ≤ 1000) (hK : K (mI (nI (ffs (nxo m φ E X L l) l 8 0))) μ) : s_X6_firstOfFewest [mO 5 47, mO 7 3, mI (nI L), mI (nI l)] μ K := by
  refine g_X6_firstOfFewest (c_fewestBehind hL hl ?_)
  rw [vI_mI, h0.1]
  have lp : ∀ (d k : Nat), k + d = 8 → K (mI (nI (ffs (nxo m φ E X L l) l d k))) μ → Tot e_X6_firstOfFewest K 11 [mO 5 47, mO 7 3, mI (nI L), mI (nI l), mI (nI (X L l)), mI (nI k)] [] μ := by
    intro d
    induction d with
    | zero =>
      intro k hk hk2
      have e : k = 8 := by omega
      subst e
      refine g_X6_firstOfFewest_11 ?_
      rw [if_pos (by decide)]
      exact hk2
    | succ d ih =>
      intro k hk hk2
      have hf : ffs (nxo m φ E X L l) l (d + 1) k = bif nxo m φ E X L l k then k else ffs (nxo m φ E X L l) l d (k + 1) := rfl
      have hn : nxo m φ E X L l k = (may m φ L l k && decide (rsn m E L k + X (L ||| 2 ^ k) k = X L l)) := rfl
      rw [hf, hn] at hk2
      refine g_X6_firstOfFewest_11 ?_
      rw [if_neg (show ¬ (8 : Int32) ≤ nI k from nI_ge (b := 8) (by omega) (by omega))]
      refine c_maySit (m := m) (φ := φ) hm e5 (ef k (by omega)) hL hl (by omega) ?_
      rw [vI_mI, ite_b]
      cases hmy : may m φ L l k with
      | false =>
        rw [hmy, Bool.false_and, cond_false] at hk2
        rw [cond_false, nI_1]
        exact ih (k + 1) (by omega) hk2
      | true =>
        rw [hmy, Bool.true_and] at hk2
        rw [cond_true]
        obtain ⟨y1, y2⟩ := h1 k (by omega) hmy
        refine c_fewestWith (m := m) (E := E) (y := X (L ||| 2 ^ k) k) (e9 k (by omega)) hL (by omega) y1 ?_
        rw [vI_mI]
        have hr : rsn m E L k ≤ 8 := rsn_le
        have h02 := h0.2
        by_cases q : rsn m E L k + X (L ||| 2 ^ k) k = X L l
        · rw [decide_eq_true q, cond_true] at hk2
          rw [if_pos (by rw [q])]
          exact hk2
        · rw [decide_eq_false q, cond_false] at hk2
          rw [if_neg (fun z => q ((nI_eq (by omega) (by omega)).mp z)), nI_1]
          exact ih (k + 1) (by omega) hk2
  exact lp 8 0 rfl hK
end SC
