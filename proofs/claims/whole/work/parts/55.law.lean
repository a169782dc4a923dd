/-! ===== printed by program: what the law asks, its loop ===== -/
set_option maxRecDepth 100000 in
theorem g_L_18 {μ : Mm} {K : MV → Mm → Prop} {L9 : Nat} {xs : Nat → Int32} {l3 : Int32} (H : (if ((nI L9) - 4) < l3 then Tot (e_L L9 xs) K 985 [mQ, mO 8 0, mO 9 55, mI l3] [] μ else (vi l3 L9 ∧ (if ((xs l3.toNatClampNeg) &&& 31) = 0 then Tot (e_L L9 xs) K 168 [mQ, mO 8 0, mO 9 55, mI l3] [] μ else (if ((xs l3.toNatClampNeg) &&& 31) = 1 then Tot (e_L L9 xs) K 191 [mQ, mO 8 0, mO 9 55, mI l3] [] μ else (if ((xs l3.toNatClampNeg) &&& 31) = 2 then Tot (e_L L9 xs) K 224 [mQ, mO 8 0, mO 9 55, mI l3] [] μ else (if ((xs l3.toNatClampNeg) &&& 31) = 3 then Tot (e_L L9 xs) K 247 [mQ, mO 8 0, mO 9 55, mI l3] [] μ else (if ((xs l3.toNatClampNeg) &&& 31) = 4 then Tot (e_L L9 xs) K 260 [mQ, mO 8 0, mO 9 55, mI l3] [] μ else (if ((xs l3.toNatClampNeg) &&& 31) = 5 then Tot (e_L L9 xs) K 283 [mQ, mO 8 0, mO 9 55, mI l3] [] μ else (if ((xs l3.toNatClampNeg) &&& 31) = 6 then Tot (e_L L9 xs) K 306 [mQ, mO 8 0, mO 9 55, mI l3] [] μ else (if ((xs l3.toNatClampNeg) &&& 31) = 7 then Tot (e_L L9 xs) K 329 [mQ, mO 8 0, mO 9 55, mI l3] [] μ else (if ((xs l3.toNatClampNeg) &&& 31) = 8 then Tot (e_L L9 xs) K 362 [mQ, mO 8 0, mO 9 55, mI l3] [] μ else (if ((xs l3.toNatClampNeg) &&& 31) = 9 then Tot (e_L L9 xs) K 375 [mQ, mO 8 0, mO 9 55, mI l3] [] μ else (if ((xs l3.toNatClampNeg) &&& 31) = 10 then Tot (e_L L9 xs) K 408 [mQ, mO 8 0, mO 9 55, mI l3] [] μ else (if ((xs l3.toNatClampNeg) &&& 31) = 11 then Tot (e_L L9 xs) K 421 [mQ, mO 8 0, mO 9 55, mI l3] [] μ else (if ((xs l3.toNatClampNeg) &&& 31) = 12 then Tot (e_L L9 xs) K 444 [mQ, mO 8 0, mO 9 55, mI l3] [] μ else (if ((xs l3.toNatClampNeg) &&& 31) = 13 then Tot (e_L L9 xs) K 467 [mQ, mO 8 0, mO 9 55, mI l3] [] μ else (if ((xs l3.toNatClampNeg) &&& 31) = 14 then Tot (e_L L9 xs) K 500 [mQ, mO 8 0, mO 9 55, mI l3] [] μ else (if ((xs l3.toNatClampNeg) &&& 31) = 15 then Tot (e_L L9 xs) K 523 [mQ, mO 8 0, mO 9 55, mI l3] [] μ else (if ((xs l3.toNatClampNeg) &&& 31) = 16 then Tot (e_L L9 xs) K 556 [mQ, mO 8 0, mO 9 55, mI l3] [] μ else (if ((xs l3.toNatClampNeg) &&& 31) = 17 then Tot (e_L L9 xs) K 589 [mQ, mO 8 0, mO 9 55, mI l3] [] μ else (if ((xs l3.toNatClampNeg) &&& 31) = 18 then Tot (e_L L9 xs) K 612 [mQ, mO 8 0, mO 9 55, mI l3] [] μ else (if ((xs l3.toNatClampNeg) &&& 31) = 19 then Tot (e_L L9 xs) K 645 [mQ, mO 8 0, mO 9 55, mI l3] [] μ else (if ((xs l3.toNatClampNeg) &&& 31) = 20 then Tot (e_L L9 xs) K 678 [mQ, mO 8 0, mO 9 55, mI l3] [] μ else (if ((xs l3.toNatClampNeg) &&& 31) = 21 then Tot (e_L L9 xs) K 701 [mQ, mO 8 0, mO 9 55, mI l3] [] μ else (if ((xs l3.toNatClampNeg) &&& 31) = 22 then Tot (e_L L9 xs) K 724 [mQ, mO 8 0, mO 9 55, mI l3] [] μ else (if ((xs l3.toNatClampNeg) &&& 31) = 23 then Tot (e_L L9 xs) K 767 [mQ, mO 8 0, mO 9 55, mI l3] [] μ else (if ((xs l3.toNatClampNeg) &&& 31) = 24 then Tot (e_L L9 xs) K 780 [mQ, mO 8 0, mO 9 55, mI l3] [] μ else (if ((xs l3.toNatClampNeg) &&& 31) = 25 then Tot (e_L L9 xs) K 823 [mQ, mO 8 0, mO 9 55, mI l3] [] μ else (if ((xs l3.toNatClampNeg) &&& 31) = 26 then Tot (e_L L9 xs) K 867 [mQ, mO 8 0, mO 9 55, mI l3] [] μ else (if ((xs l3.toNatClampNeg) &&& 31) = 27 then Tot (e_L L9 xs) K 910 [mQ, mO 8 0, mO 9 55, mI l3] [] μ else (if ((xs l3.toNatClampNeg) &&& 31) = 28 then Tot (e_L L9 xs) K 933 [mQ, mO 8 0, mO 9 55, mI l3] [] μ else (if ((xs l3.toNatClampNeg) &&& 31) = 29 then Tot (e_L L9 xs) K 956 [mQ, mO 8 0, mO 9 55, mI l3] [] μ else Tot (e_L L9 xs) K 979 [mQ, mO 8 0, mO 9 55, mI l3] [] μ))))))))))))))))))))))))))))))))) : Tot (e_L L9 xs) K 18 [mQ, mO 8 0, mO 9 55, mI l3] [] μ := seg (pc := 18) (L := [mQ, mO 8 0, mO 9 55, mI l3]) (S := []) m_L [18, 168, 191, 224, 247, 260, 283, 306, 329, 362, 375, 408, 421, 444, 467, 500, 523, 556, 589, 612, 645, 678, 701, 724, 767, 780, 823, 867, 910, 933, 956, 979, 985] 40 H
set_option maxRecDepth 100000 in
theorem g_L_168 {μ : Mm} {K : MV → Mm → Prop} {L9 : Nat} {xs : Nat → Int32} {l3 : Int32} (H : (vi (l3 + 1) L9 ∧ (s_X9_acts [mO 8 0, mI (xs (l3 + 1).toNatClampNeg)] μ (fun v1 μ1 => (vi (l3 + 1) L9 ∧ (s_X10_acts [mO 9 55, mI (xs (l3 + 1).toNatClampNeg)] μ1 (fun v2 μ2 => (if (vI v1) = (vI v2) then Tot (e_L L9 xs) K 979 [mQ, mO 8 0, mO 9 55, mI l3] [] μ2 else (zb 0 ∧ K (mI 0) μ2))))))))) : Tot (e_L L9 xs) K 168 [mQ, mO 8 0, mO 9 55, mI l3] [] μ := seg (pc := 168) (L := [mQ, mO 8 0, mO 9 55, mI l3]) (S := []) m_L [18, 168, 191, 224, 247, 260, 283, 306, 329, 362, 375, 408, 421, 444, 467, 500, 523, 556, 589, 612, 645, 678, 701, 724, 767, 780, 823, 867, 910, 933, 956, 979, 985] 40 H
set_option maxRecDepth 100000 in
theorem g_L_191 {μ : Mm} {K : MV → Mm → Prop} {L9 : Nat} {xs : Nat → Int32} {l3 : Int32} (H : (vi (l3 + 1) L9 ∧ (vi (l3 + 2) L9 ∧ (s_X9_set [mO 8 0, mI (xs (l3 + 1).toNatClampNeg), mI (xs (l3 + 2).toNatClampNeg)] μ (fun v1 μ1 => (vi (l3 + 1) L9 ∧ (vi (l3 + 2) L9 ∧ (s_X10_set [mO 9 55, mI (xs (l3 + 1).toNatClampNeg), mI (xs (l3 + 2).toNatClampNeg)] μ1 (fun v2 μ2 => (if (vI v1) = (vI v2) then Tot (e_L L9 xs) K 979 [mQ, mO 8 0, mO 9 55, mI l3] [] μ2 else (zb 0 ∧ K (mI 0) μ2))))))))))) : Tot (e_L L9 xs) K 191 [mQ, mO 8 0, mO 9 55, mI l3] [] μ := seg (pc := 191) (L := [mQ, mO 8 0, mO 9 55, mI l3]) (S := []) m_L [18, 168, 191, 224, 247, 260, 283, 306, 329, 362, 375, 408, 421, 444, 467, 500, 523, 556, 589, 612, 645, 678, 701, 724, 767, 780, 823, 867, 910, 933, 956, 979, 985] 40 H
set_option maxRecDepth 100000 in
theorem g_L_224 {μ : Mm} {K : MV → Mm → Prop} {L9 : Nat} {xs : Nat → Int32} {l3 : Int32} (H : (vi (l3 + 1) L9 ∧ (s_X9_say [mO 8 0, mI (xs (l3 + 1).toNatClampNeg)] μ (fun v1 μ1 => (vi (l3 + 1) L9 ∧ (s_X10_say [mO 9 55, mI (xs (l3 + 1).toNatClampNeg)] μ1 (fun v2 μ2 => (if (vI v1) = (vI v2) then Tot (e_L L9 xs) K 979 [mQ, mO 8 0, mO 9 55, mI l3] [] μ2 else (zb 0 ∧ K (mI 0) μ2))))))))) : Tot (e_L L9 xs) K 224 [mQ, mO 8 0, mO 9 55, mI l3] [] μ := seg (pc := 224) (L := [mQ, mO 8 0, mO 9 55, mI l3]) (S := []) m_L [18, 168, 191, 224, 247, 260, 283, 306, 329, 362, 375, 408, 421, 444, 467, 500, 523, 556, 589, 612, 645, 678, 701, 724, 767, 780, 823, 867, 910, 933, 956, 979, 985] 40 H
set_option maxRecDepth 100000 in
theorem g_L_247 {μ : Mm} {K : MV → Mm → Prop} {L9 : Nat} {xs : Nat → Int32} {l3 : Int32} (H : (s_X9_wipe [mO 8 0] μ (fun v1 μ1 => (s_X10_wipe [mO 9 55] μ1 (fun v2 μ2 => (if (vI v1) = (vI v2) then Tot (e_L L9 xs) K 979 [mQ, mO 8 0, mO 9 55, mI l3] [] μ2 else (zb 0 ∧ K (mI 0) μ2))))))) : Tot (e_L L9 xs) K 247 [mQ, mO 8 0, mO 9 55, mI l3] [] μ := seg (pc := 247) (L := [mQ, mO 8 0, mO 9 55, mI l3]) (S := []) m_L [18, 168, 191, 224, 247, 260, 283, 306, 329, 362, 375, 408, 421, 444, 467, 500, 523, 556, 589, 612, 645, 678, 701, 724, 767, 780, 823, 867, 910, 933, 956, 979, 985] 40 H
set_option maxRecDepth 100000 in
theorem g_L_260 {μ : Mm} {K : MV → Mm → Prop} {L9 : Nat} {xs : Nat → Int32} {l3 : Int32} (H : (vi (l3 + 1) L9 ∧ (s_X9_fault [mO 8 0, mI (xs (l3 + 1).toNatClampNeg)] μ (fun v1 μ1 => (vi (l3 + 1) L9 ∧ (s_X10_fault [mO 9 55, mI (xs (l3 + 1).toNatClampNeg)] μ1 (fun v2 μ2 => (if (vI v1) = (vI v2) then Tot (e_L L9 xs) K 979 [mQ, mO 8 0, mO 9 55, mI l3] [] μ2 else (zb 0 ∧ K (mI 0) μ2))))))))) : Tot (e_L L9 xs) K 260 [mQ, mO 8 0, mO 9 55, mI l3] [] μ := seg (pc := 260) (L := [mQ, mO 8 0, mO 9 55, mI l3]) (S := []) m_L [18, 168, 191, 224, 247, 260, 283, 306, 329, 362, 375, 408, 421, 444, 467, 500, 523, 556, 589, 612, 645, 678, 701, 724, 767, 780, 823, 867, 910, 933, 956, 979, 985] 40 H
set_option maxRecDepth 100000 in
theorem g_L_283 {μ : Mm} {K : MV → Mm → Prop} {L9 : Nat} {xs : Nat → Int32} {l3 : Int32} (H : (vi (l3 + 1) L9 ∧ (s_X9_guest [mO 8 0, mI (xs (l3 + 1).toNatClampNeg)] μ (fun v1 μ1 => (vi (l3 + 1) L9 ∧ (s_X10_guest [mO 9 55, mI (xs (l3 + 1).toNatClampNeg)] μ1 (fun v2 μ2 => (if (vI v1) = (vI v2) then Tot (e_L L9 xs) K 979 [mQ, mO 8 0, mO 9 55, mI l3] [] μ2 else (zb 0 ∧ K (mI 0) μ2))))))))) : Tot (e_L L9 xs) K 283 [mQ, mO 8 0, mO 9 55, mI l3] [] μ := seg (pc := 283) (L := [mQ, mO 8 0, mO 9 55, mI l3]) (S := []) m_L [18, 168, 191, 224, 247, 260, 283, 306, 329, 362, 375, 408, 421, 444, 467, 500, 523, 556, 589, 612, 645, 678, 701, 724, 767, 780, 823, 867, 910, 933, 956, 979, 985] 40 H
set_option maxRecDepth 100000 in
theorem g_L_306 {μ : Mm} {K : MV → Mm → Prop} {L9 : Nat} {xs : Nat → Int32} {l3 : Int32} (H : (vi (l3 + 1) L9 ∧ (s_X9_leave [mO 8 0, mI (xs (l3 + 1).toNatClampNeg)] μ (fun v1 μ1 => (vi (l3 + 1) L9 ∧ (s_X10_leave [mO 9 55, mI (xs (l3 + 1).toNatClampNeg)] μ1 (fun v2 μ2 => (if (vI v1) = (vI v2) then Tot (e_L L9 xs) K 979 [mQ, mO 8 0, mO 9 55, mI l3] [] μ2 else (zb 0 ∧ K (mI 0) μ2))))))))) : Tot (e_L L9 xs) K 306 [mQ, mO 8 0, mO 9 55, mI l3] [] μ := seg (pc := 306) (L := [mQ, mO 8 0, mO 9 55, mI l3]) (S := []) m_L [18, 168, 191, 224, 247, 260, 283, 306, 329, 362, 375, 408, 421, 444, 467, 500, 523, 556, 589, 612, 645, 678, 701, 724, 767, 780, 823, 867, 910, 933, 956, 979, 985] 40 H
set_option maxRecDepth 100000 in
theorem g_L_329 {μ : Mm} {K : MV → Mm → Prop} {L9 : Nat} {xs : Nat → Int32} {l3 : Int32} (H : (vi (l3 + 1) L9 ∧ (vi (l3 + 2) L9 ∧ (s_X9_worth [mO 8 0, mI (xs (l3 + 1).toNatClampNeg), mI (xs (l3 + 2).toNatClampNeg)] μ (fun v1 μ1 => (vi (l3 + 1) L9 ∧ (vi (l3 + 2) L9 ∧ (s_X10_worth [mO 9 55, mI (xs (l3 + 1).toNatClampNeg), mI (xs (l3 + 2).toNatClampNeg)] μ1 (fun v2 μ2 => (if (vI v1) = (vI v2) then Tot (e_L L9 xs) K 979 [mQ, mO 8 0, mO 9 55, mI l3] [] μ2 else (zb 0 ∧ K (mI 0) μ2))))))))))) : Tot (e_L L9 xs) K 329 [mQ, mO 8 0, mO 9 55, mI l3] [] μ := seg (pc := 329) (L := [mQ, mO 8 0, mO 9 55, mI l3]) (S := []) m_L [18, 168, 191, 224, 247, 260, 283, 306, 329, 362, 375, 408, 421, 444, 467, 500, 523, 556, 589, 612, 645, 678, 701, 724, 767, 780, 823, 867, 910, 933, 956, 979, 985] 40 H
set_option maxRecDepth 100000 in
theorem g_L_362 {μ : Mm} {K : MV → Mm → Prop} {L9 : Nat} {xs : Nat → Int32} {l3 : Int32} (H : (s_X9_play [mO 8 0] μ (fun v1 μ1 => (s_X10_play [mO 9 55] μ1 (fun v2 μ2 => (if (vI v1) = (vI v2) then Tot (e_L L9 xs) K 979 [mQ, mO 8 0, mO 9 55, mI l3] [] μ2 else (zb 0 ∧ K (mI 0) μ2))))))) : Tot (e_L L9 xs) K 362 [mQ, mO 8 0, mO 9 55, mI l3] [] μ := seg (pc := 362) (L := [mQ, mO 8 0, mO 9 55, mI l3]) (S := []) m_L [18, 168, 191, 224, 247, 260, 283, 306, 329, 362, 375, 408, 421, 444, 467, 500, 523, 556, 589, 612, 645, 678, 701, 724, 767, 780, 823, 867, 910, 933, 956, 979, 985] 40 H
set_option maxRecDepth 100000 in
theorem g_L_375 {μ : Mm} {K : MV → Mm → Prop} {L9 : Nat} {xs : Nat → Int32} {l3 : Int32} (H : (vi (l3 + 1) L9 ∧ (vi (l3 + 2) L9 ∧ (s_X9_leaves [mO 8 0, mI (xs (l3 + 1).toNatClampNeg), mI (xs (l3 + 2).toNatClampNeg)] μ (fun v1 μ1 => (vi (l3 + 1) L9 ∧ (vi (l3 + 2) L9 ∧ (s_X10_leaves [mO 9 55, mI (xs (l3 + 1).toNatClampNeg), mI (xs (l3 + 2).toNatClampNeg)] μ1 (fun v2 μ2 => (if (vI v1) = (vI v2) then Tot (e_L L9 xs) K 979 [mQ, mO 8 0, mO 9 55, mI l3] [] μ2 else (zb 0 ∧ K (mI 0) μ2))))))))))) : Tot (e_L L9 xs) K 375 [mQ, mO 8 0, mO 9 55, mI l3] [] μ := seg (pc := 375) (L := [mQ, mO 8 0, mO 9 55, mI l3]) (S := []) m_L [18, 168, 191, 224, 247, 260, 283, 306, 329, 362, 375, 408, 421, 444, 467, 500, 523, 556, 589, 612, 645, 678, 701, 724, 767, 780, 823, 867, 910, 933, 956, 979, 985] 40 H
set_option maxRecDepth 100000 in
theorem g_L_408 {μ : Mm} {K : MV → Mm → Prop} {L9 : Nat} {xs : Nat → Int32} {l3 : Int32} (H : (s_X9_takings [mO 8 0] μ (fun v1 μ1 => (s_X10_takings [mO 9 55] μ1 (fun v2 μ2 => (if (vI v1) = (vI v2) then Tot (e_L L9 xs) K 979 [mQ, mO 8 0, mO 9 55, mI l3] [] μ2 else (zb 0 ∧ K (mI 0) μ2))))))) : Tot (e_L L9 xs) K 408 [mQ, mO 8 0, mO 9 55, mI l3] [] μ := seg (pc := 408) (L := [mQ, mO 8 0, mO 9 55, mI l3]) (S := []) m_L [18, 168, 191, 224, 247, 260, 283, 306, 329, 362, 375, 408, 421, 444, 467, 500, 523, 556, 589, 612, 645, 678, 701, 724, 767, 780, 823, 867, 910, 933, 956, 979, 985] 40 H
set_option maxRecDepth 100000 in
theorem g_L_421 {μ : Mm} {K : MV → Mm → Prop} {L9 : Nat} {xs : Nat → Int32} {l3 : Int32} (H : (vi (l3 + 1) L9 ∧ (s_X9_stayed [mO 8 0, mI (xs (l3 + 1).toNatClampNeg)] μ (fun v1 μ1 => (vi (l3 + 1) L9 ∧ (s_X10_stayed [mO 9 55, mI (xs (l3 + 1).toNatClampNeg)] μ1 (fun v2 μ2 => (if (vI v1) = (vI v2) then Tot (e_L L9 xs) K 979 [mQ, mO 8 0, mO 9 55, mI l3] [] μ2 else (zb 0 ∧ K (mI 0) μ2))))))))) : Tot (e_L L9 xs) K 421 [mQ, mO 8 0, mO 9 55, mI l3] [] μ := seg (pc := 421) (L := [mQ, mO 8 0, mO 9 55, mI l3]) (S := []) m_L [18, 168, 191, 224, 247, 260, 283, 306, 329, 362, 375, 408, 421, 444, 467, 500, 523, 556, 589, 612, 645, 678, 701, 724, 767, 780, 823, 867, 910, 933, 956, 979, 985] 40 H
set_option maxRecDepth 100000 in
theorem g_L_444 {μ : Mm} {K : MV → Mm → Prop} {L9 : Nat} {xs : Nat → Int32} {l3 : Int32} (H : (vi (l3 + 1) L9 ∧ (s_X9_fares [mO 8 0, mI (xs (l3 + 1).toNatClampNeg)] μ (fun v1 μ1 => (vi (l3 + 1) L9 ∧ (s_X10_fares [mO 9 55, mI (xs (l3 + 1).toNatClampNeg)] μ1 (fun v2 μ2 => (if (vI v1) = (vI v2) then Tot (e_L L9 xs) K 979 [mQ, mO 8 0, mO 9 55, mI l3] [] μ2 else (zb 0 ∧ K (mI 0) μ2))))))))) : Tot (e_L L9 xs) K 444 [mQ, mO 8 0, mO 9 55, mI l3] [] μ := seg (pc := 444) (L := [mQ, mO 8 0, mO 9 55, mI l3]) (S := []) m_L [18, 168, 191, 224, 247, 260, 283, 306, 329, 362, 375, 408, 421, 444, 467, 500, 523, 556, 589, 612, 645, 678, 701, 724, 767, 780, 823, 867, 910, 933, 956, 979, 985] 40 H
set_option maxRecDepth 100000 in
theorem g_L_467 {μ : Mm} {K : MV → Mm → Prop} {L9 : Nat} {xs : Nat → Int32} {l3 : Int32} (H : (vi (l3 + 1) L9 ∧ (vi (l3 + 2) L9 ∧ (s_X9_must [mO 8 0, mI (xs (l3 + 1).toNatClampNeg), mI (xs (l3 + 2).toNatClampNeg)] μ (fun v1 μ1 => (vi (l3 + 1) L9 ∧ (vi (l3 + 2) L9 ∧ (s_X10_must [mO 9 55, mI (xs (l3 + 1).toNatClampNeg), mI (xs (l3 + 2).toNatClampNeg)] μ1 (fun v2 μ2 => (if (vI v1) = (vI v2) then Tot (e_L L9 xs) K 979 [mQ, mO 8 0, mO 9 55, mI l3] [] μ2 else (zb 0 ∧ K (mI 0) μ2))))))))))) : Tot (e_L L9 xs) K 467 [mQ, mO 8 0, mO 9 55, mI l3] [] μ := seg (pc := 467) (L := [mQ, mO 8 0, mO 9 55, mI l3]) (S := []) m_L [18, 168, 191, 224, 247, 260, 283, 306, 329, 362, 375, 408, 421, 444, 467, 500, 523, 556, 589, 612, 645, 678, 701, 724, 767, 780, 823, 867, 910, 933, 956, 979, 985] 40 H
set_option maxRecDepth 100000 in
theorem g_L_500 {μ : Mm} {K : MV → Mm → Prop} {L9 : Nat} {xs : Nat → Int32} {l3 : Int32} (H : (vi (l3 + 1) L9 ∧ (s_X9_order [mO 8 0, mI (xs (l3 + 1).toNatClampNeg)] μ (fun v1 μ1 => (vi (l3 + 1) L9 ∧ (s_X10_order [mO 9 55, mI (xs (l3 + 1).toNatClampNeg)] μ1 (fun v2 μ2 => (if (vI v1) = (vI v2) then Tot (e_L L9 xs) K 979 [mQ, mO 8 0, mO 9 55, mI l3] [] μ2 else (zb 0 ∧ K (mI 0) μ2))))))))) : Tot (e_L L9 xs) K 500 [mQ, mO 8 0, mO 9 55, mI l3] [] μ := seg (pc := 500) (L := [mQ, mO 8 0, mO 9 55, mI l3]) (S := []) m_L [18, 168, 191, 224, 247, 260, 283, 306, 329, 362, 375, 408, 421, 444, 467, 500, 523, 556, 589, 612, 645, 678, 701, 724, 767, 780, 823, 867, 910, 933, 956, 979, 985] 40 H
set_option maxRecDepth 100000 in
theorem g_L_523 {μ : Mm} {K : MV → Mm → Prop} {L9 : Nat} {xs : Nat → Int32} {l3 : Int32} (H : (vi (l3 + 1) L9 ∧ (vi (l3 + 2) L9 ∧ (s_X9_claque [mO 8 0, mI (xs (l3 + 1).toNatClampNeg), mI (xs (l3 + 2).toNatClampNeg)] μ (fun v1 μ1 => (vi (l3 + 1) L9 ∧ (vi (l3 + 2) L9 ∧ (s_X10_claque [mO 9 55, mI (xs (l3 + 1).toNatClampNeg), mI (xs (l3 + 2).toNatClampNeg)] μ1 (fun v2 μ2 => (if (vI v1) = (vI v2) then Tot (e_L L9 xs) K 979 [mQ, mO 8 0, mO 9 55, mI l3] [] μ2 else (zb 0 ∧ K (mI 0) μ2))))))))))) : Tot (e_L L9 xs) K 523 [mQ, mO 8 0, mO 9 55, mI l3] [] μ := seg (pc := 523) (L := [mQ, mO 8 0, mO 9 55, mI l3]) (S := []) m_L [18, 168, 191, 224, 247, 260, 283, 306, 329, 362, 375, 408, 421, 444, 467, 500, 523, 556, 589, 612, 645, 678, 701, 724, 767, 780, 823, 867, 910, 933, 956, 979, 985] 40 H
set_option maxRecDepth 100000 in
theorem g_L_556 {μ : Mm} {K : MV → Mm → Prop} {L9 : Nat} {xs : Nat → Int32} {l3 : Int32} (H : (vi (l3 + 1) L9 ∧ (vi (l3 + 2) L9 ∧ (s_X9_friends [mO 8 0, mI (xs (l3 + 1).toNatClampNeg), mI (xs (l3 + 2).toNatClampNeg)] μ (fun v1 μ1 => (vi (l3 + 1) L9 ∧ (vi (l3 + 2) L9 ∧ (s_X10_friends [mO 9 55, mI (xs (l3 + 1).toNatClampNeg), mI (xs (l3 + 2).toNatClampNeg)] μ1 (fun v2 μ2 => (if (vI v1) = (vI v2) then Tot (e_L L9 xs) K 979 [mQ, mO 8 0, mO 9 55, mI l3] [] μ2 else (zb 0 ∧ K (mI 0) μ2))))))))))) : Tot (e_L L9 xs) K 556 [mQ, mO 8 0, mO 9 55, mI l3] [] μ := seg (pc := 556) (L := [mQ, mO 8 0, mO 9 55, mI l3]) (S := []) m_L [18, 168, 191, 224, 247, 260, 283, 306, 329, 362, 375, 408, 421, 444, 467, 500, 523, 556, 589, 612, 645, 678, 701, 724, 767, 780, 823, 867, 910, 933, 956, 979, 985] 40 H
set_option maxRecDepth 100000 in
theorem g_L_589 {μ : Mm} {K : MV → Mm → Prop} {L9 : Nat} {xs : Nat → Int32} {l3 : Int32} (H : (vi (l3 + 1) L9 ∧ (s_X9_seating [mO 8 0, mI (xs (l3 + 1).toNatClampNeg)] μ (fun v1 μ1 => (vi (l3 + 1) L9 ∧ (s_X10_seating [mO 9 55, mI (xs (l3 + 1).toNatClampNeg)] μ1 (fun v2 μ2 => (if (vI v1) = (vI v2) then Tot (e_L L9 xs) K 979 [mQ, mO 8 0, mO 9 55, mI l3] [] μ2 else (zb 0 ∧ K (mI 0) μ2))))))))) : Tot (e_L L9 xs) K 589 [mQ, mO 8 0, mO 9 55, mI l3] [] μ := seg (pc := 589) (L := [mQ, mO 8 0, mO 9 55, mI l3]) (S := []) m_L [18, 168, 191, 224, 247, 260, 283, 306, 329, 362, 375, 408, 421, 444, 467, 500, 523, 556, 589, 612, 645, 678, 701, 724, 767, 780, 823, 867, 910, 933, 956, 979, 985] 40 H
set_option maxRecDepth 100000 in
theorem g_L_612 {μ : Mm} {K : MV → Mm → Prop} {L9 : Nat} {xs : Nat → Int32} {l3 : Int32} (H : (vi (l3 + 1) L9 ∧ (vi (l3 + 2) L9 ∧ (s_X9_other [mO 8 0, mI (xs (l3 + 1).toNatClampNeg), mI (xs (l3 + 2).toNatClampNeg)] μ (fun v1 μ1 => (vi (l3 + 1) L9 ∧ (vi (l3 + 2) L9 ∧ (s_X10_other [mO 9 55, mI (xs (l3 + 1).toNatClampNeg), mI (xs (l3 + 2).toNatClampNeg)] μ1 (fun v2 μ2 => (if (vI v1) = (vI v2) then Tot (e_L L9 xs) K 979 [mQ, mO 8 0, mO 9 55, mI l3] [] μ2 else (zb 0 ∧ K (mI 0) μ2))))))))))) : Tot (e_L L9 xs) K 612 [mQ, mO 8 0, mO 9 55, mI l3] [] μ := seg (pc := 612) (L := [mQ, mO 8 0, mO 9 55, mI l3]) (S := []) m_L [18, 168, 191, 224, 247, 260, 283, 306, 329, 362, 375, 408, 421, 444, 467, 500, 523, 556, 589, 612, 645, 678, 701, 724, 767, 780, 823, 867, 910, 933, 956, 979, 985] 40 H
set_option maxRecDepth 100000 in
theorem g_L_645 {μ : Mm} {K : MV → Mm → Prop} {L9 : Nat} {xs : Nat → Int32} {l3 : Int32} (H : (vi (l3 + 1) L9 ∧ (vi (l3 + 2) L9 ∧ (s_X9_over [mO 8 0, mI (xs (l3 + 1).toNatClampNeg), mI (xs (l3 + 2).toNatClampNeg)] μ (fun v1 μ1 => (vi (l3 + 1) L9 ∧ (vi (l3 + 2) L9 ∧ (s_X10_over [mO 9 55, mI (xs (l3 + 1).toNatClampNeg), mI (xs (l3 + 2).toNatClampNeg)] μ1 (fun v2 μ2 => (if (vI v1) = (vI v2) then Tot (e_L L9 xs) K 979 [mQ, mO 8 0, mO 9 55, mI l3] [] μ2 else (zb 0 ∧ K (mI 0) μ2))))))))))) : Tot (e_L L9 xs) K 645 [mQ, mO 8 0, mO 9 55, mI l3] [] μ := seg (pc := 645) (L := [mQ, mO 8 0, mO 9 55, mI l3]) (S := []) m_L [18, 168, 191, 224, 247, 260, 283, 306, 329, 362, 375, 408, 421, 444, 467, 500, 523, 556, 589, 612, 645, 678, 701, 724, 767, 780, 823, 867, 910, 933, 956, 979, 985] 40 H
set_option maxRecDepth 100000 in
theorem g_L_678 {μ : Mm} {K : MV → Mm → Prop} {L9 : Nat} {xs : Nat → Int32} {l3 : Int32} (H : (vi (l3 + 1) L9 ∧ (s_X9_both [mO 8 0, mI (xs (l3 + 1).toNatClampNeg)] μ (fun v1 μ1 => (vi (l3 + 1) L9 ∧ (s_X10_both [mO 9 55, mI (xs (l3 + 1).toNatClampNeg)] μ1 (fun v2 μ2 => (if (vI v1) = (vI v2) then Tot (e_L L9 xs) K 979 [mQ, mO 8 0, mO 9 55, mI l3] [] μ2 else (zb 0 ∧ K (mI 0) μ2))))))))) : Tot (e_L L9 xs) K 678 [mQ, mO 8 0, mO 9 55, mI l3] [] μ := seg (pc := 678) (L := [mQ, mO 8 0, mO 9 55, mI l3]) (S := []) m_L [18, 168, 191, 224, 247, 260, 283, 306, 329, 362, 375, 408, 421, 444, 467, 500, 523, 556, 589, 612, 645, 678, 701, 724, 767, 780, 823, 867, 910, 933, 956, 979, 985] 40 H
set_option maxRecDepth 100000 in
theorem g_L_701 {μ : Mm} {K : MV → Mm → Prop} {L9 : Nat} {xs : Nat → Int32} {l3 : Int32} (H : (vi (l3 + 1) L9 ∧ (s_X9_rests [mO 8 0, mI (xs (l3 + 1).toNatClampNeg)] μ (fun v1 μ1 => (vi (l3 + 1) L9 ∧ (s_X10_rests [mO 9 55, mI (xs (l3 + 1).toNatClampNeg)] μ1 (fun v2 μ2 => (if (vI v1) = (vI v2) then Tot (e_L L9 xs) K 979 [mQ, mO 8 0, mO 9 55, mI l3] [] μ2 else (zb 0 ∧ K (mI 0) μ2))))))))) : Tot (e_L L9 xs) K 701 [mQ, mO 8 0, mO 9 55, mI l3] [] μ := seg (pc := 701) (L := [mQ, mO 8 0, mO 9 55, mI l3]) (S := []) m_L [18, 168, 191, 224, 247, 260, 283, 306, 329, 362, 375, 408, 421, 444, 467, 500, 523, 556, 589, 612, 645, 678, 701, 724, 767, 780, 823, 867, 910, 933, 956, 979, 985] 40 H
set_option maxRecDepth 100000 in
theorem g_L_724 {μ : Mm} {K : MV → Mm → Prop} {L9 : Nat} {xs : Nat → Int32} {l3 : Int32} (H : (vi (l3 + 1) L9 ∧ (vi (l3 + 2) L9 ∧ (vi (l3 + 3) L9 ∧ (s_X9_seen [mO 8 0, mI (xs (l3 + 1).toNatClampNeg), mI (xs (l3 + 2).toNatClampNeg), mI (xs (l3 + 3).toNatClampNeg)] μ (fun v1 μ1 => (vi (l3 + 1) L9 ∧ (vi (l3 + 2) L9 ∧ (vi (l3 + 3) L9 ∧ (s_X10_seen [mO 9 55, mI (xs (l3 + 1).toNatClampNeg), mI (xs (l3 + 2).toNatClampNeg), mI (xs (l3 + 3).toNatClampNeg)] μ1 (fun v2 μ2 => (if (vI v1) = (vI v2) then Tot (e_L L9 xs) K 979 [mQ, mO 8 0, mO 9 55, mI l3] [] μ2 else (zb 0 ∧ K (mI 0) μ2))))))))))))) : Tot (e_L L9 xs) K 724 [mQ, mO 8 0, mO 9 55, mI l3] [] μ := seg (pc := 724) (L := [mQ, mO 8 0, mO 9 55, mI l3]) (S := []) m_L [18, 168, 191, 224, 247, 260, 283, 306, 329, 362, 375, 408, 421, 444, 467, 500, 523, 556, 589, 612, 645, 678, 701, 724, 767, 780, 823, 867, 910, 933, 956, 979, 985] 40 H
set_option maxRecDepth 100000 in
theorem g_L_767 {μ : Mm} {K : MV → Mm → Prop} {L9 : Nat} {xs : Nat → Int32} {l3 : Int32} (H : (s_X9_forget [mO 8 0] μ (fun v1 μ1 => (s_X10_forget [mO 9 55] μ1 (fun v2 μ2 => (if (vI v1) = (vI v2) then Tot (e_L L9 xs) K 979 [mQ, mO 8 0, mO 9 55, mI l3] [] μ2 else (zb 0 ∧ K (mI 0) μ2))))))) : Tot (e_L L9 xs) K 767 [mQ, mO 8 0, mO 9 55, mI l3] [] μ := seg (pc := 767) (L := [mQ, mO 8 0, mO 9 55, mI l3]) (S := []) m_L [18, 168, 191, 224, 247, 260, 283, 306, 329, 362, 375, 408, 421, 444, 467, 500, 523, 556, 589, 612, 645, 678, 701, 724, 767, 780, 823, 867, 910, 933, 956, 979, 985] 40 H
set_option maxRecDepth 100000 in
theorem g_L_780 {μ : Mm} {K : MV → Mm → Prop} {L9 : Nat} {xs : Nat → Int32} {l3 : Int32} (H : (vi (l3 + 1) L9 ∧ (vi (l3 + 2) L9 ∧ (vi (l3 + 3) L9 ∧ (s_X9_fits [mO 8 0, mI (xs (l3 + 1).toNatClampNeg), mI (xs (l3 + 2).toNatClampNeg), mI (xs (l3 + 3).toNatClampNeg)] μ (fun v1 μ1 => (vi (l3 + 1) L9 ∧ (vi (l3 + 2) L9 ∧ (vi (l3 + 3) L9 ∧ (s_X10_fits [mO 9 55, mI (xs (l3 + 1).toNatClampNeg), mI (xs (l3 + 2).toNatClampNeg), mI (xs (l3 + 3).toNatClampNeg)] μ1 (fun v2 μ2 => (if (vI v1) = (vI v2) then Tot (e_L L9 xs) K 979 [mQ, mO 8 0, mO 9 55, mI l3] [] μ2 else (zb 0 ∧ K (mI 0) μ2))))))))))))) : Tot (e_L L9 xs) K 780 [mQ, mO 8 0, mO 9 55, mI l3] [] μ := seg (pc := 780) (L := [mQ, mO 8 0, mO 9 55, mI l3]) (S := []) m_L [18, 168, 191, 224, 247, 260, 283, 306, 329, 362, 375, 408, 421, 444, 467, 500, 523, 556, 589, 612, 645, 678, 701, 724, 767, 780, 823, 867, 910, 933, 956, 979, 985] 40 H
set_option maxRecDepth 100000 in
theorem g_L_823 {μ : Mm} {K : MV → Mm → Prop} {L9 : Nat} {xs : Nat → Int32} {l3 : Int32} (H : (vi (l3 + 1) L9 ∧ (vi (l3 + 2) L9 ∧ (vi (l3 + 3) L9 ∧ (s_X9_odds [mO 8 0, mI (xs (l3 + 1).toNatClampNeg), mI (xs (l3 + 2).toNatClampNeg), mI (xs (l3 + 3).toNatClampNeg)] μ (fun v1 μ1 => (vi (l3 + 1) L9 ∧ (vi (l3 + 2) L9 ∧ (vi (l3 + 3) L9 ∧ (s_X10_odds [mO 9 55, mI (xs (l3 + 1).toNatClampNeg), mI (xs (l3 + 2).toNatClampNeg), mI (xs (l3 + 3).toNatClampNeg)] μ1 (fun v2 μ2 => (if (lg_cmp (vJ v1) (vJ v2)) = 0 then Tot (e_L L9 xs) K 979 [mQ, mO 8 0, mO 9 55, mI l3] [] μ2 else (zb 0 ∧ K (mI 0) μ2))))))))))))) : Tot (e_L L9 xs) K 823 [mQ, mO 8 0, mO 9 55, mI l3] [] μ := seg (pc := 823) (L := [mQ, mO 8 0, mO 9 55, mI l3]) (S := []) m_L [18, 168, 191, 224, 247, 260, 283, 306, 329, 362, 375, 408, 421, 444, 467, 500, 523, 556, 589, 612, 645, 678, 701, 724, 767, 780, 823, 867, 910, 933, 956, 979, 985] 40 H
set_option maxRecDepth 100000 in
theorem g_L_867 {μ : Mm} {K : MV → Mm → Prop} {L9 : Nat} {xs : Nat → Int32} {l3 : Int32} (H : (vi (l3 + 1) L9 ∧ (vi (l3 + 2) L9 ∧ (vi (l3 + 3) L9 ∧ (s_X9_year [mO 8 0, mI (xs (l3 + 1).toNatClampNeg), mI (xs (l3 + 2).toNatClampNeg), mI (xs (l3 + 3).toNatClampNeg)] μ (fun v1 μ1 => (vi (l3 + 1) L9 ∧ (vi (l3 + 2) L9 ∧ (vi (l3 + 3) L9 ∧ (s_X10_year [mO 9 55, mI (xs (l3 + 1).toNatClampNeg), mI (xs (l3 + 2).toNatClampNeg), mI (xs (l3 + 3).toNatClampNeg)] μ1 (fun v2 μ2 => (if (vI v1) = (vI v2) then Tot (e_L L9 xs) K 979 [mQ, mO 8 0, mO 9 55, mI l3] [] μ2 else (zb 0 ∧ K (mI 0) μ2))))))))))))) : Tot (e_L L9 xs) K 867 [mQ, mO 8 0, mO 9 55, mI l3] [] μ := seg (pc := 867) (L := [mQ, mO 8 0, mO 9 55, mI l3]) (S := []) m_L [18, 168, 191, 224, 247, 260, 283, 306, 329, 362, 375, 408, 421, 444, 467, 500, 523, 556, 589, 612, 645, 678, 701, 724, 767, 780, 823, 867, 910, 933, 956, 979, 985] 40 H
set_option maxRecDepth 100000 in
theorem g_L_910 {μ : Mm} {K : MV → Mm → Prop} {L9 : Nat} {xs : Nat → Int32} {l3 : Int32} (H : (vi (l3 + 1) L9 ∧ (s_X9_image [mO 8 0, mI (xs (l3 + 1).toNatClampNeg)] μ (fun v1 μ1 => (vi (l3 + 1) L9 ∧ (s_X10_image [mO 9 55, mI (xs (l3 + 1).toNatClampNeg)] μ1 (fun v2 μ2 => (if (vI v1) = (vI v2) then Tot (e_L L9 xs) K 979 [mQ, mO 8 0, mO 9 55, mI l3] [] μ2 else (zb 0 ∧ K (mI 0) μ2))))))))) : Tot (e_L L9 xs) K 910 [mQ, mO 8 0, mO 9 55, mI l3] [] μ := seg (pc := 910) (L := [mQ, mO 8 0, mO 9 55, mI l3]) (S := []) m_L [18, 168, 191, 224, 247, 260, 283, 306, 329, 362, 375, 408, 421, 444, 467, 500, 523, 556, 589, 612, 645, 678, 701, 724, 767, 780, 823, 867, 910, 933, 956, 979, 985] 40 H
set_option maxRecDepth 100000 in
theorem g_L_933 {μ : Mm} {K : MV → Mm → Prop} {L9 : Nat} {xs : Nat → Int32} {l3 : Int32} (H : (vi (l3 + 1) L9 ∧ (s_X9_restore [mO 8 0, mI (xs (l3 + 1).toNatClampNeg)] μ (fun v1 μ1 => (vi (l3 + 1) L9 ∧ (s_X10_restore [mO 9 55, mI (xs (l3 + 1).toNatClampNeg)] μ1 (fun v2 μ2 => (if (vI v1) = (vI v2) then Tot (e_L L9 xs) K 979 [mQ, mO 8 0, mO 9 55, mI l3] [] μ2 else (zb 0 ∧ K (mI 0) μ2))))))))) : Tot (e_L L9 xs) K 933 [mQ, mO 8 0, mO 9 55, mI l3] [] μ := seg (pc := 933) (L := [mQ, mO 8 0, mO 9 55, mI l3]) (S := []) m_L [18, 168, 191, 224, 247, 260, 283, 306, 329, 362, 375, 408, 421, 444, 467, 500, 523, 556, 589, 612, 645, 678, 701, 724, 767, 780, 823, 867, 910, 933, 956, 979, 985] 40 H
set_option maxRecDepth 100000 in
theorem g_L_956 {μ : Mm} {K : MV → Mm → Prop} {L9 : Nat} {xs : Nat → Int32} {l3 : Int32} (H : (vi (l3 + 1) L9 ∧ (s_X9_told [mO 8 0, mI (xs (l3 + 1).toNatClampNeg)] μ (fun v1 μ1 => (vi (l3 + 1) L9 ∧ (s_X10_told [mO 9 55, mI (xs (l3 + 1).toNatClampNeg)] μ1 (fun v2 μ2 => (if (vI v1) = (vI v2) then Tot (e_L L9 xs) K 979 [mQ, mO 8 0, mO 9 55, mI l3] [] μ2 else (zb 0 ∧ K (mI 0) μ2))))))))) : Tot (e_L L9 xs) K 956 [mQ, mO 8 0, mO 9 55, mI l3] [] μ := seg (pc := 956) (L := [mQ, mO 8 0, mO 9 55, mI l3]) (S := []) m_L [18, 168, 191, 224, 247, 260, 283, 306, 329, 362, 375, 408, 421, 444, 467, 500, 523, 556, 589, 612, 645, 678, 701, 724, 767, 780, 823, 867, 910, 933, 956, 979, 985] 40 H
set_option maxRecDepth 100000 in
theorem g_L_979 {μ : Mm} {K : MV → Mm → Prop} {L9 : Nat} {xs : Nat → Int32} {l3 : Int32} (H : Tot (e_L L9 xs) K 18 [mQ, mO 8 0, mO 9 55, mI (l3 + 4)] [] μ) : Tot (e_L L9 xs) K 979 [mQ, mO 8 0, mO 9 55, mI l3] [] μ := seg (pc := 979) (L := [mQ, mO 8 0, mO 9 55, mI l3]) (S := []) m_L [18, 168, 191, 224, 247, 260, 283, 306, 329, 362, 375, 408, 421, 444, 467, 500, 523, 556, 589, 612, 645, 678, 701, 724, 767, 780, 823, 867, 910, 933, 956, 979, 985] 40 H
set_option maxRecDepth 100000 in
theorem g_L_985 {μ : Mm} {K : MV → Mm → Prop} {L9 : Nat} {xs : Nat → Int32} {l3 : Int32} (H : (zb 1 ∧ K (mI 1) μ)) : Tot (e_L L9 xs) K 985 [mQ, mO 8 0, mO 9 55, mI l3] [] μ := seg (pc := 985) (L := [mQ, mO 8 0, mO 9 55, mI l3]) (S := []) m_L [18, 168, 191, 224, 247, 260, 283, 306, 329, 362, 375, 408, 421, 444, 467, 500, 523, 556, 589, 612, 645, 678, 701, 724, 767, 780, 823, 867, 910, 933, 956, 979, 985] 40 H
theorem lg_cmp_0 (x : Int64) : lg_cmp x x = 0 := by
  unfold lg_cmp
  rw [if_neg (show ¬ x > x from fun h => Int64.lt_irrefl h), if_pos rfl]
theorem vi_xs {i k L : Nat} (h : i + k < L) (hL : L ≤ 2048) : vi (nI i + nI k) L := by
  rw [nI_add]
  exact vi_nI h (by omega)
section LL
variable {L : Nat} {xs : Nat → Int32} {K : MV → Mm → Prop}
theorem q_L_168 {μ : Mm} (r : Rl μ) {i : Nat} (hi : i + 3 < L) (hL : L ≤ 2048) (hn : ∀ μ', Rl μ' → Tot (e_L L xs) K 979 [mQ, mO 8 0, mO 9 55, mI (nI i)] [] μ') : Tot (e_L L xs) K 168 [mQ, mO 8 0, mO 9 55, mI (nI i)] [] μ := by
  refine g_L_168 ⟨vi_xs (k := 1) (by omega) hL, ?_⟩
  refine p_X9_acts _ _ _ _ (fun v1 μ1 h => ?_) (call_acts r (xs (nI i + 1).toNatClampNeg))
  refine ⟨vi_xs (k := 1) (by omega) hL, ?_⟩
  refine p_X10_acts _ _ _ _ (fun v2 μ2 h2 => ?_) h
  obtain ⟨e, r2⟩ := h2
  subst e
  rw [if_pos rfl]
  exact hn μ2 r2
theorem q_L_191 {μ : Mm} (r : Rl μ) {i : Nat} (hi : i + 3 < L) (hL : L ≤ 2048) (hn : ∀ μ', Rl μ' → Tot (e_L L xs) K 979 [mQ, mO 8 0, mO 9 55, mI (nI i)] [] μ') : Tot (e_L L xs) K 191 [mQ, mO 8 0, mO 9 55, mI (nI i)] [] μ := by
  refine g_L_191 ⟨vi_xs (k := 1) (by omega) hL, ⟨vi_xs (k := 2) (by omega) hL, ?_⟩⟩
  refine p_X9_set _ _ _ _ (fun v1 μ1 h => ?_) (call_set r (xs (nI i + 1).toNatClampNeg) (xs (nI i + 2).toNatClampNeg))
  refine ⟨vi_xs (k := 1) (by omega) hL, ⟨vi_xs (k := 2) (by omega) hL, ?_⟩⟩
  refine p_X10_set _ _ _ _ (fun v2 μ2 h2 => ?_) h
  obtain ⟨e, r2⟩ := h2
  subst e
  rw [if_pos rfl]
  exact hn μ2 r2
theorem q_L_224 {μ : Mm} (r : Rl μ) {i : Nat} (hi : i + 3 < L) (hL : L ≤ 2048) (hn : ∀ μ', Rl μ' → Tot (e_L L xs) K 979 [mQ, mO 8 0, mO 9 55, mI (nI i)] [] μ') : Tot (e_L L xs) K 224 [mQ, mO 8 0, mO 9 55, mI (nI i)] [] μ := by
  refine g_L_224 ⟨vi_xs (k := 1) (by omega) hL, ?_⟩
  refine p_X9_say _ _ _ _ (fun v1 μ1 h => ?_) (call_say r (xs (nI i + 1).toNatClampNeg))
  refine ⟨vi_xs (k := 1) (by omega) hL, ?_⟩
  refine p_X10_say _ _ _ _ (fun v2 μ2 h2 => ?_) h
  obtain ⟨e, r2⟩ := h2
  subst e
  rw [if_pos rfl]
  exact hn μ2 r2
theorem q_L_247 {μ : Mm} (r : Rl μ) {i : Nat} (hi : i + 3 < L) (hL : L ≤ 2048) (hn : ∀ μ', Rl μ' → Tot (e_L L xs) K 979 [mQ, mO 8 0, mO 9 55, mI (nI i)] [] μ') : Tot (e_L L xs) K 247 [mQ, mO 8 0, mO 9 55, mI (nI i)] [] μ := by
  refine g_L_247 ?_
  refine p_X9_wipe _ _ _ _ (fun v1 μ1 h => ?_) (call_wipe r)
  refine ?_
  refine p_X10_wipe _ _ _ _ (fun v2 μ2 h2 => ?_) h
  obtain ⟨e, r2⟩ := h2
  subst e
  rw [if_pos rfl]
  exact hn μ2 r2
theorem q_L_260 {μ : Mm} (r : Rl μ) {i : Nat} (hi : i + 3 < L) (hL : L ≤ 2048) (hn : ∀ μ', Rl μ' → Tot (e_L L xs) K 979 [mQ, mO 8 0, mO 9 55, mI (nI i)] [] μ') : Tot (e_L L xs) K 260 [mQ, mO 8 0, mO 9 55, mI (nI i)] [] μ := by
  refine g_L_260 ⟨vi_xs (k := 1) (by omega) hL, ?_⟩
  refine p_X9_fault _ _ _ _ (fun v1 μ1 h => ?_) (call_fault r (xs (nI i + 1).toNatClampNeg))
  refine ⟨vi_xs (k := 1) (by omega) hL, ?_⟩
  refine p_X10_fault _ _ _ _ (fun v2 μ2 h2 => ?_) h
  obtain ⟨e, r2⟩ := h2
  subst e
  rw [if_pos rfl]
  exact hn μ2 r2
theorem q_L_283 {μ : Mm} (r : Rl μ) {i : Nat} (hi : i + 3 < L) (hL : L ≤ 2048) (hn : ∀ μ', Rl μ' → Tot (e_L L xs) K 979 [mQ, mO 8 0, mO 9 55, mI (nI i)] [] μ') : Tot (e_L L xs) K 283 [mQ, mO 8 0, mO 9 55, mI (nI i)] [] μ := by
  refine g_L_283 ⟨vi_xs (k := 1) (by omega) hL, ?_⟩
  refine p_X9_guest _ _ _ _ (fun v1 μ1 h => ?_) (call_guest r (xs (nI i + 1).toNatClampNeg))
  refine ⟨vi_xs (k := 1) (by omega) hL, ?_⟩
  refine p_X10_guest _ _ _ _ (fun v2 μ2 h2 => ?_) h
  obtain ⟨e, r2⟩ := h2
  subst e
  rw [if_pos rfl]
  exact hn μ2 r2
theorem q_L_306 {μ : Mm} (r : Rl μ) {i : Nat} (hi : i + 3 < L) (hL : L ≤ 2048) (hn : ∀ μ', Rl μ' → Tot (e_L L xs) K 979 [mQ, mO 8 0, mO 9 55, mI (nI i)] [] μ') : Tot (e_L L xs) K 306 [mQ, mO 8 0, mO 9 55, mI (nI i)] [] μ := by
  refine g_L_306 ⟨vi_xs (k := 1) (by omega) hL, ?_⟩
  refine p_X9_leave _ _ _ _ (fun v1 μ1 h => ?_) (call_leave r (xs (nI i + 1).toNatClampNeg))
  refine ⟨vi_xs (k := 1) (by omega) hL, ?_⟩
  refine p_X10_leave _ _ _ _ (fun v2 μ2 h2 => ?_) h
  obtain ⟨e, r2⟩ := h2
  subst e
  rw [if_pos rfl]
  exact hn μ2 r2
theorem q_L_329 {μ : Mm} (r : Rl μ) {i : Nat} (hi : i + 3 < L) (hL : L ≤ 2048) (hn : ∀ μ', Rl μ' → Tot (e_L L xs) K 979 [mQ, mO 8 0, mO 9 55, mI (nI i)] [] μ') : Tot (e_L L xs) K 329 [mQ, mO 8 0, mO 9 55, mI (nI i)] [] μ := by
  refine g_L_329 ⟨vi_xs (k := 1) (by omega) hL, ⟨vi_xs (k := 2) (by omega) hL, ?_⟩⟩
  refine p_X9_worth _ _ _ _ (fun v1 μ1 h => ?_) (call_worth r (xs (nI i + 1).toNatClampNeg) (xs (nI i + 2).toNatClampNeg))
  refine ⟨vi_xs (k := 1) (by omega) hL, ⟨vi_xs (k := 2) (by omega) hL, ?_⟩⟩
  refine p_X10_worth _ _ _ _ (fun v2 μ2 h2 => ?_) h
  obtain ⟨e, r2⟩ := h2
  subst e
  rw [if_pos rfl]
  exact hn μ2 r2
theorem q_L_362 {μ : Mm} (r : Rl μ) {i : Nat} (hi : i + 3 < L) (hL : L ≤ 2048) (hn : ∀ μ', Rl μ' → Tot (e_L L xs) K 979 [mQ, mO 8 0, mO 9 55, mI (nI i)] [] μ') : Tot (e_L L xs) K 362 [mQ, mO 8 0, mO 9 55, mI (nI i)] [] μ := by
  refine g_L_362 ?_
  refine p_X9_play _ _ _ _ (fun v1 μ1 h => ?_) (call_play r)
  refine ?_
  refine p_X10_play _ _ _ _ (fun v2 μ2 h2 => ?_) h
  obtain ⟨e, r2⟩ := h2
  subst e
  rw [if_pos rfl]
  exact hn μ2 r2
theorem q_L_375 {μ : Mm} (r : Rl μ) {i : Nat} (hi : i + 3 < L) (hL : L ≤ 2048) (hn : ∀ μ', Rl μ' → Tot (e_L L xs) K 979 [mQ, mO 8 0, mO 9 55, mI (nI i)] [] μ') : Tot (e_L L xs) K 375 [mQ, mO 8 0, mO 9 55, mI (nI i)] [] μ := by
  refine g_L_375 ⟨vi_xs (k := 1) (by omega) hL, ⟨vi_xs (k := 2) (by omega) hL, ?_⟩⟩
  refine p_X9_leaves _ _ _ _ (fun v1 μ1 h => ?_) (call_leaves r (xs (nI i + 1).toNatClampNeg) (xs (nI i + 2).toNatClampNeg))
  refine ⟨vi_xs (k := 1) (by omega) hL, ⟨vi_xs (k := 2) (by omega) hL, ?_⟩⟩
  refine p_X10_leaves _ _ _ _ (fun v2 μ2 h2 => ?_) h
  obtain ⟨e, r2⟩ := h2
  subst e
  rw [if_pos rfl]
  exact hn μ2 r2
theorem q_L_408 {μ : Mm} (r : Rl μ) {i : Nat} (hi : i + 3 < L) (hL : L ≤ 2048) (hn : ∀ μ', Rl μ' → Tot (e_L L xs) K 979 [mQ, mO 8 0, mO 9 55, mI (nI i)] [] μ') : Tot (e_L L xs) K 408 [mQ, mO 8 0, mO 9 55, mI (nI i)] [] μ := by
  refine g_L_408 ?_
  refine p_X9_takings _ _ _ _ (fun v1 μ1 h => ?_) (call_takings r)
  refine ?_
  refine p_X10_takings _ _ _ _ (fun v2 μ2 h2 => ?_) h
  obtain ⟨e, r2⟩ := h2
  subst e
  rw [if_pos rfl]
  exact hn μ2 r2
theorem q_L_421 {μ : Mm} (r : Rl μ) {i : Nat} (hi : i + 3 < L) (hL : L ≤ 2048) (hn : ∀ μ', Rl μ' → Tot (e_L L xs) K 979 [mQ, mO 8 0, mO 9 55, mI (nI i)] [] μ') : Tot (e_L L xs) K 421 [mQ, mO 8 0, mO 9 55, mI (nI i)] [] μ := by
  refine g_L_421 ⟨vi_xs (k := 1) (by omega) hL, ?_⟩
  refine p_X9_stayed _ _ _ _ (fun v1 μ1 h => ?_) (call_stayed r (xs (nI i + 1).toNatClampNeg))
  refine ⟨vi_xs (k := 1) (by omega) hL, ?_⟩
  refine p_X10_stayed _ _ _ _ (fun v2 μ2 h2 => ?_) h
  obtain ⟨e, r2⟩ := h2
  subst e
  rw [if_pos rfl]
  exact hn μ2 r2
theorem q_L_444 {μ : Mm} (r : Rl μ) {i : Nat} (hi : i + 3 < L) (hL : L ≤ 2048) (hn : ∀ μ', Rl μ' → Tot (e_L L xs) K 979 [mQ, mO 8 0, mO 9 55, mI (nI i)] [] μ') : Tot (e_L L xs) K 444 [mQ, mO 8 0, mO 9 55, mI (nI i)] [] μ := by
  refine g_L_444 ⟨vi_xs (k := 1) (by omega) hL, ?_⟩
  refine p_X9_fares _ _ _ _ (fun v1 μ1 h => ?_) (call_fares r (xs (nI i + 1).toNatClampNeg))
  refine ⟨vi_xs (k := 1) (by omega) hL, ?_⟩
  refine p_X10_fares _ _ _ _ (fun v2 μ2 h2 => ?_) h
  obtain ⟨e, r2⟩ := h2
  subst e
  rw [if_pos rfl]
  exact hn μ2 r2
theorem q_L_467 {μ : Mm} (r : Rl μ) {i : Nat} (hi : i + 3 < L) (hL : L ≤ 2048) (hn : ∀ μ', Rl μ' → Tot (e_L L xs) K 979 [mQ, mO 8 0, mO 9 55, mI (nI i)] [] μ') : Tot (e_L L xs) K 467 [mQ, mO 8 0, mO 9 55, mI (nI i)] [] μ := by
  refine g_L_467 ⟨vi_xs (k := 1) (by omega) hL, ⟨vi_xs (k := 2) (by omega) hL, ?_⟩⟩
  refine p_X9_must _ _ _ _ (fun v1 μ1 h => ?_) (call_must r (xs (nI i + 1).toNatClampNeg) (xs (nI i + 2).toNatClampNeg))
  refine ⟨vi_xs (k := 1) (by omega) hL, ⟨vi_xs (k := 2) (by omega) hL, ?_⟩⟩
  refine p_X10_must _ _ _ _ (fun v2 μ2 h2 => ?_) h
  obtain ⟨e, r2⟩ := h2
  subst e
  rw [if_pos rfl]
  exact hn μ2 r2
theorem q_L_500 {μ : Mm} (r : Rl μ) {i : Nat} (hi : i + 3 < L) (hL : L ≤ 2048) (hn : ∀ μ', Rl μ' → Tot (e_L L xs) K 979 [mQ, mO 8 0, mO 9 55, mI (nI i)] [] μ') : Tot (e_L L xs) K 500 [mQ, mO 8 0, mO 9 55, mI (nI i)] [] μ := by
  refine g_L_500 ⟨vi_xs (k := 1) (by omega) hL, ?_⟩
  refine p_X9_order _ _ _ _ (fun v1 μ1 h => ?_) (call_order r (xs (nI i + 1).toNatClampNeg))
  refine ⟨vi_xs (k := 1) (by omega) hL, ?_⟩
  refine p_X10_order _ _ _ _ (fun v2 μ2 h2 => ?_) h
  obtain ⟨e, r2⟩ := h2
  subst e
  rw [if_pos rfl]
  exact hn μ2 r2
theorem q_L_523 {μ : Mm} (r : Rl μ) {i : Nat} (hi : i + 3 < L) (hL : L ≤ 2048) (hn : ∀ μ', Rl μ' → Tot (e_L L xs) K 979 [mQ, mO 8 0, mO 9 55, mI (nI i)] [] μ') : Tot (e_L L xs) K 523 [mQ, mO 8 0, mO 9 55, mI (nI i)] [] μ := by
  refine g_L_523 ⟨vi_xs (k := 1) (by omega) hL, ⟨vi_xs (k := 2) (by omega) hL, ?_⟩⟩
  refine p_X9_claque _ _ _ _ (fun v1 μ1 h => ?_) (call_claque r (xs (nI i + 1).toNatClampNeg) (xs (nI i + 2).toNatClampNeg))
  refine ⟨vi_xs (k := 1) (by omega) hL, ⟨vi_xs (k := 2) (by omega) hL, ?_⟩⟩
  refine p_X10_claque _ _ _ _ (fun v2 μ2 h2 => ?_) h
  obtain ⟨e, r2⟩ := h2
  subst e
  rw [if_pos rfl]
  exact hn μ2 r2
theorem q_L_556 {μ : Mm} (r : Rl μ) {i : Nat} (hi : i + 3 < L) (hL : L ≤ 2048) (hn : ∀ μ', Rl μ' → Tot (e_L L xs) K 979 [mQ, mO 8 0, mO 9 55, mI (nI i)] [] μ') : Tot (e_L L xs) K 556 [mQ, mO 8 0, mO 9 55, mI (nI i)] [] μ := by
  refine g_L_556 ⟨vi_xs (k := 1) (by omega) hL, ⟨vi_xs (k := 2) (by omega) hL, ?_⟩⟩
  refine p_X9_friends _ _ _ _ (fun v1 μ1 h => ?_) (call_friends r (xs (nI i + 1).toNatClampNeg) (xs (nI i + 2).toNatClampNeg))
  refine ⟨vi_xs (k := 1) (by omega) hL, ⟨vi_xs (k := 2) (by omega) hL, ?_⟩⟩
  refine p_X10_friends _ _ _ _ (fun v2 μ2 h2 => ?_) h
  obtain ⟨e, r2⟩ := h2
  subst e
  rw [if_pos rfl]
  exact hn μ2 r2
theorem q_L_589 {μ : Mm} (r : Rl μ) {i : Nat} (hi : i + 3 < L) (hL : L ≤ 2048) (hn : ∀ μ', Rl μ' → Tot (e_L L xs) K 979 [mQ, mO 8 0, mO 9 55, mI (nI i)] [] μ') : Tot (e_L L xs) K 589 [mQ, mO 8 0, mO 9 55, mI (nI i)] [] μ := by
  refine g_L_589 ⟨vi_xs (k := 1) (by omega) hL, ?_⟩
  refine p_X9_seating _ _ _ _ (fun v1 μ1 h => ?_) (call_seating r (xs (nI i + 1).toNatClampNeg))
  refine ⟨vi_xs (k := 1) (by omega) hL, ?_⟩
  refine p_X10_seating _ _ _ _ (fun v2 μ2 h2 => ?_) h
  obtain ⟨e, r2⟩ := h2
  subst e
  rw [if_pos rfl]
  exact hn μ2 r2
theorem q_L_612 {μ : Mm} (r : Rl μ) {i : Nat} (hi : i + 3 < L) (hL : L ≤ 2048) (hn : ∀ μ', Rl μ' → Tot (e_L L xs) K 979 [mQ, mO 8 0, mO 9 55, mI (nI i)] [] μ') : Tot (e_L L xs) K 612 [mQ, mO 8 0, mO 9 55, mI (nI i)] [] μ := by
  refine g_L_612 ⟨vi_xs (k := 1) (by omega) hL, ⟨vi_xs (k := 2) (by omega) hL, ?_⟩⟩
  refine p_X9_other _ _ _ _ (fun v1 μ1 h => ?_) (call_other r (xs (nI i + 1).toNatClampNeg) (xs (nI i + 2).toNatClampNeg))
  refine ⟨vi_xs (k := 1) (by omega) hL, ⟨vi_xs (k := 2) (by omega) hL, ?_⟩⟩
  refine p_X10_other _ _ _ _ (fun v2 μ2 h2 => ?_) h
  obtain ⟨e, r2⟩ := h2
  subst e
  rw [if_pos rfl]
  exact hn μ2 r2
theorem q_L_645 {μ : Mm} (r : Rl μ) {i : Nat} (hi : i + 3 < L) (hL : L ≤ 2048) (hn : ∀ μ', Rl μ' → Tot (e_L L xs) K 979 [mQ, mO 8 0, mO 9 55, mI (nI i)] [] μ') : Tot (e_L L xs) K 645 [mQ, mO 8 0, mO 9 55, mI (nI i)] [] μ := by
  refine g_L_645 ⟨vi_xs (k := 1) (by omega) hL, ⟨vi_xs (k := 2) (by omega) hL, ?_⟩⟩
  refine p_X9_over _ _ _ _ (fun v1 μ1 h => ?_) (call_over r (xs (nI i + 1).toNatClampNeg) (xs (nI i + 2).toNatClampNeg))
  refine ⟨vi_xs (k := 1) (by omega) hL, ⟨vi_xs (k := 2) (by omega) hL, ?_⟩⟩
  refine p_X10_over _ _ _ _ (fun v2 μ2 h2 => ?_) h
  obtain ⟨e, r2⟩ := h2
  subst e
  rw [if_pos rfl]
  exact hn μ2 r2
theorem q_L_678 {μ : Mm} (r : Rl μ) {i : Nat} (hi : i + 3 < L) (hL : L ≤ 2048) (hn : ∀ μ', Rl μ' → Tot (e_L L xs) K 979 [mQ, mO 8 0, mO 9 55, mI (nI i)] [] μ') : Tot (e_L L xs) K 678 [mQ, mO 8 0, mO 9 55, mI (nI i)] [] μ := by
  refine g_L_678 ⟨vi_xs (k := 1) (by omega) hL, ?_⟩
  refine p_X9_both _ _ _ _ (fun v1 μ1 h => ?_) (call_both r (xs (nI i + 1).toNatClampNeg))
  refine ⟨vi_xs (k := 1) (by omega) hL, ?_⟩
  refine p_X10_both _ _ _ _ (fun v2 μ2 h2 => ?_) h
  obtain ⟨e, r2⟩ := h2
  subst e
  rw [if_pos rfl]
  exact hn μ2 r2
theorem q_L_701 {μ : Mm} (r : Rl μ) {i : Nat} (hi : i + 3 < L) (hL : L ≤ 2048) (hn : ∀ μ', Rl μ' → Tot (e_L L xs) K 979 [mQ, mO 8 0, mO 9 55, mI (nI i)] [] μ') : Tot (e_L L xs) K 701 [mQ, mO 8 0, mO 9 55, mI (nI i)] [] μ := by
  refine g_L_701 ⟨vi_xs (k := 1) (by omega) hL, ?_⟩
  refine p_X9_rests _ _ _ _ (fun v1 μ1 h => ?_) (call_rests r (xs (nI i + 1).toNatClampNeg))
  refine ⟨vi_xs (k := 1) (by omega) hL, ?_⟩
  refine p_X10_rests _ _ _ _ (fun v2 μ2 h2 => ?_) h
  obtain ⟨e, r2⟩ := h2
  subst e
  rw [if_pos rfl]
  exact hn μ2 r2
theorem q_L_724 {μ : Mm} (r : Rl μ) {i : Nat} (hi : i + 3 < L) (hL : L ≤ 2048) (hn : ∀ μ', Rl μ' → Tot (e_L L xs) K 979 [mQ, mO 8 0, mO 9 55, mI (nI i)] [] μ') : Tot (e_L L xs) K 724 [mQ, mO 8 0, mO 9 55, mI (nI i)] [] μ := by
  refine g_L_724 ⟨vi_xs (k := 1) (by omega) hL, ⟨vi_xs (k := 2) (by omega) hL, ⟨vi_xs (k := 3) (by omega) hL, ?_⟩⟩⟩
  refine p_X9_seen _ _ _ _ (fun v1 μ1 h => ?_) (call_seen r (xs (nI i + 1).toNatClampNeg) (xs (nI i + 2).toNatClampNeg) (xs (nI i + 3).toNatClampNeg))
  refine ⟨vi_xs (k := 1) (by omega) hL, ⟨vi_xs (k := 2) (by omega) hL, ⟨vi_xs (k := 3) (by omega) hL, ?_⟩⟩⟩
  refine p_X10_seen _ _ _ _ (fun v2 μ2 h2 => ?_) h
  obtain ⟨e, r2⟩ := h2
  subst e
  rw [if_pos rfl]
  exact hn μ2 r2
theorem q_L_767 {μ : Mm} (r : Rl μ) {i : Nat} (hi : i + 3 < L) (hL : L ≤ 2048) (hn : ∀ μ', Rl μ' → Tot (e_L L xs) K 979 [mQ, mO 8 0, mO 9 55, mI (nI i)] [] μ') : Tot (e_L L xs) K 767 [mQ, mO 8 0, mO 9 55, mI (nI i)] [] μ := by
  refine g_L_767 ?_
  refine p_X9_forget _ _ _ _ (fun v1 μ1 h => ?_) (call_forget r)
  refine ?_
  refine p_X10_forget _ _ _ _ (fun v2 μ2 h2 => ?_) h
  obtain ⟨e, r2⟩ := h2
  subst e
  rw [if_pos rfl]
  exact hn μ2 r2
theorem q_L_780 {μ : Mm} (r : Rl μ) {i : Nat} (hi : i + 3 < L) (hL : L ≤ 2048) (hn : ∀ μ', Rl μ' → Tot (e_L L xs) K 979 [mQ, mO 8 0, mO 9 55, mI (nI i)] [] μ') : Tot (e_L L xs) K 780 [mQ, mO 8 0, mO 9 55, mI (nI i)] [] μ := by
  refine g_L_780 ⟨vi_xs (k := 1) (by omega) hL, ⟨vi_xs (k := 2) (by omega) hL, ⟨vi_xs (k := 3) (by omega) hL, ?_⟩⟩⟩
  refine p_X9_fits _ _ _ _ (fun v1 μ1 h => ?_) (call_fits r (xs (nI i + 1).toNatClampNeg) (xs (nI i + 2).toNatClampNeg) (xs (nI i + 3).toNatClampNeg))
  refine ⟨vi_xs (k := 1) (by omega) hL, ⟨vi_xs (k := 2) (by omega) hL, ⟨vi_xs (k := 3) (by omega) hL, ?_⟩⟩⟩
  refine p_X10_fits _ _ _ _ (fun v2 μ2 h2 => ?_) h
  obtain ⟨e, r2⟩ := h2
  subst e
  rw [if_pos rfl]
  exact hn μ2 r2
theorem q_L_823 {μ : Mm} (r : Rl μ) {i : Nat} (hi : i + 3 < L) (hL : L ≤ 2048) (hn : ∀ μ', Rl μ' → Tot (e_L L xs) K 979 [mQ, mO 8 0, mO 9 55, mI (nI i)] [] μ') : Tot (e_L L xs) K 823 [mQ, mO 8 0, mO 9 55, mI (nI i)] [] μ := by
  refine g_L_823 ⟨vi_xs (k := 1) (by omega) hL, ⟨vi_xs (k := 2) (by omega) hL, ⟨vi_xs (k := 3) (by omega) hL, ?_⟩⟩⟩
  refine p_X9_odds _ _ _ _ (fun v1 μ1 h => ?_) (call_odds r (xs (nI i + 1).toNatClampNeg) (xs (nI i + 2).toNatClampNeg) (xs (nI i + 3).toNatClampNeg))
  refine ⟨vi_xs (k := 1) (by omega) hL, ⟨vi_xs (k := 2) (by omega) hL, ⟨vi_xs (k := 3) (by omega) hL, ?_⟩⟩⟩
  refine p_X10_odds _ _ _ _ (fun v2 μ2 h2 => ?_) h
  obtain ⟨e, r2⟩ := h2
  subst e
  rw [lg_cmp_0, if_pos rfl]
  exact hn μ2 r2
theorem q_L_867 {μ : Mm} (r : Rl μ) {i : Nat} (hi : i + 3 < L) (hL : L ≤ 2048) (hn : ∀ μ', Rl μ' → Tot (e_L L xs) K 979 [mQ, mO 8 0, mO 9 55, mI (nI i)] [] μ') : Tot (e_L L xs) K 867 [mQ, mO 8 0, mO 9 55, mI (nI i)] [] μ := by
  refine g_L_867 ⟨vi_xs (k := 1) (by omega) hL, ⟨vi_xs (k := 2) (by omega) hL, ⟨vi_xs (k := 3) (by omega) hL, ?_⟩⟩⟩
  refine p_X9_year _ _ _ _ (fun v1 μ1 h => ?_) (call_year r (xs (nI i + 1).toNatClampNeg) (xs (nI i + 2).toNatClampNeg) (xs (nI i + 3).toNatClampNeg))
  refine ⟨vi_xs (k := 1) (by omega) hL, ⟨vi_xs (k := 2) (by omega) hL, ⟨vi_xs (k := 3) (by omega) hL, ?_⟩⟩⟩
  refine p_X10_year _ _ _ _ (fun v2 μ2 h2 => ?_) h
  obtain ⟨e, r2⟩ := h2
  subst e
  rw [if_pos rfl]
  exact hn μ2 r2
theorem q_L_910 {μ : Mm} (r : Rl μ) {i : Nat} (hi : i + 3 < L) (hL : L ≤ 2048) (hn : ∀ μ', Rl μ' → Tot (e_L L xs) K 979 [mQ, mO 8 0, mO 9 55, mI (nI i)] [] μ') : Tot (e_L L xs) K 910 [mQ, mO 8 0, mO 9 55, mI (nI i)] [] μ := by
  refine g_L_910 ⟨vi_xs (k := 1) (by omega) hL, ?_⟩
  refine p_X9_image _ _ _ _ (fun v1 μ1 h => ?_) (call_image r (xs (nI i + 1).toNatClampNeg))
  refine ⟨vi_xs (k := 1) (by omega) hL, ?_⟩
  refine p_X10_image _ _ _ _ (fun v2 μ2 h2 => ?_) h
  obtain ⟨e, r2⟩ := h2
  subst e
  rw [if_pos rfl]
  exact hn μ2 r2
theorem q_L_933 {μ : Mm} (r : Rl μ) {i : Nat} (hi : i + 3 < L) (hL : L ≤ 2048) (hn : ∀ μ', Rl μ' → Tot (e_L L xs) K 979 [mQ, mO 8 0, mO 9 55, mI (nI i)] [] μ') : Tot (e_L L xs) K 933 [mQ, mO 8 0, mO 9 55, mI (nI i)] [] μ := by
  refine g_L_933 ⟨vi_xs (k := 1) (by omega) hL, ?_⟩
  refine p_X9_restore _ _ _ _ (fun v1 μ1 h => ?_) (call_restore r (xs (nI i + 1).toNatClampNeg))
  refine ⟨vi_xs (k := 1) (by omega) hL, ?_⟩
  refine p_X10_restore _ _ _ _ (fun v2 μ2 h2 => ?_) h
  obtain ⟨e, r2⟩ := h2
  subst e
  rw [if_pos rfl]
  exact hn μ2 r2
theorem q_L_956 {μ : Mm} (r : Rl μ) {i : Nat} (hi : i + 3 < L) (hL : L ≤ 2048) (hn : ∀ μ', Rl μ' → Tot (e_L L xs) K 979 [mQ, mO 8 0, mO 9 55, mI (nI i)] [] μ') : Tot (e_L L xs) K 956 [mQ, mO 8 0, mO 9 55, mI (nI i)] [] μ := by
  refine g_L_956 ⟨vi_xs (k := 1) (by omega) hL, ?_⟩
  refine p_X9_told _ _ _ _ (fun v1 μ1 h => ?_) (call_told r (xs (nI i + 1).toNatClampNeg))
  refine ⟨vi_xs (k := 1) (by omega) hL, ?_⟩
  refine p_X10_told _ _ _ _ (fun v2 μ2 h2 => ?_) h
  obtain ⟨e, r2⟩ := h2
  subst e
  rw [if_pos rfl]
  exact hn μ2 r2
theorem law_run (hL : L ≤ 2048) (hK : ∀ μ, K (mI 1) μ) : ∀ (d i : Nat) (μ : Mm), L ≤ i + 4 * d → Rl μ → i ≤ 2048 + 4 → Tot (e_L L xs) K 18 [mQ, mO 8 0, mO 9 55, mI (nI i)] [] μ := by
  have fin : ∀ (i : Nat) (μ : Mm), Tot (e_L L xs) K 985 [mQ, mO 8 0, mO 9 55, mI (nI i)] [] μ := fun i μ => g_L_985 ⟨zb1, hK μ⟩
  have hc : ∀ i : Nat, i ≤ 2048 + 4 → (nI L - 4 < nI i ↔ L < i + 4) := fun i hi => by
    rw [Int32.lt_iff_toInt_lt]
    have h1 : (nI L - 4).toInt = (L : Int) - 4 := by
      rw [Int32.toInt_sub, nI_toInt (by omega), show (4 : Int32).toInt = 4 by decide]
      exact Int.bmod_eq_of_le (by omega) (by omega)
    rw [h1, nI_toInt (by omega)]
    omega
  intro d
  induction d with
  | zero =>
    intro i μ hd r hi
    refine g_L_18 ?_
    rw [if_pos ((hc i hi).mpr (by omega))]
    exact fin i μ
  | succ d ih =>
    intro i μ hd r hi
    refine g_L_18 ?_
    by_cases q : L < i + 4
    · rw [if_pos ((hc i hi).mpr q)]
      exact fin i μ
    · rw [if_neg (fun z => q ((hc i hi).mp z))]
      refine ⟨vi_nI (by omega) (by omega), ?_⟩
      have hn : ∀ μ', Rl μ' → Tot (e_L L xs) K 979 [mQ, mO 8 0, mO 9 55, mI (nI i)] [] μ' := fun μ' r' => by
        refine g_L_979 ?_
        have := ih (i + 4) μ' (by omega) r' (by omega)
        rw [← nI_add] at this
        exact this
      have hi3 : i + 3 < L := by omega
      by_cases q0 : xs (nI i).toNatClampNeg &&& 31 = 0
      · rw [if_pos q0]
        exact q_L_168 r hi3 hL hn
      rw [if_neg q0]
      by_cases q1 : xs (nI i).toNatClampNeg &&& 31 = 1
      · rw [if_pos q1]
        exact q_L_191 r hi3 hL hn
      rw [if_neg q1]
      by_cases q2 : xs (nI i).toNatClampNeg &&& 31 = 2
      · rw [if_pos q2]
        exact q_L_224 r hi3 hL hn
      rw [if_neg q2]
      by_cases q3 : xs (nI i).toNatClampNeg &&& 31 = 3
      · rw [if_pos q3]
        exact q_L_247 r hi3 hL hn
      rw [if_neg q3]
      by_cases q4 : xs (nI i).toNatClampNeg &&& 31 = 4
      · rw [if_pos q4]
        exact q_L_260 r hi3 hL hn
      rw [if_neg q4]
      by_cases q5 : xs (nI i).toNatClampNeg &&& 31 = 5
      · rw [if_pos q5]
        exact q_L_283 r hi3 hL hn
      rw [if_neg q5]
      by_cases q6 : xs (nI i).toNatClampNeg &&& 31 = 6
      · rw [if_pos q6]
        exact q_L_306 r hi3 hL hn
      rw [if_neg q6]
      by_cases q7 : xs (nI i).toNatClampNeg &&& 31 = 7
      · rw [if_pos q7]
        exact q_L_329 r hi3 hL hn
      rw [if_neg q7]
      by_cases q8 : xs (nI i).toNatClampNeg &&& 31 = 8
      · rw [if_pos q8]
        exact q_L_362 r hi3 hL hn
      rw [if_neg q8]
      by_cases q9 : xs (nI i).toNatClampNeg &&& 31 = 9
      · rw [if_pos q9]
        exact q_L_375 r hi3 hL hn
      rw [if_neg q9]
      by_cases q10 : xs (nI i).toNatClampNeg &&& 31 = 10
      · rw [if_pos q10]
        exact q_L_408 r hi3 hL hn
      rw [if_neg q10]
      by_cases q11 : xs (nI i).toNatClampNeg &&& 31 = 11
      · rw [if_pos q11]
        exact q_L_421 r hi3 hL hn
      rw [if_neg q11]
      by_cases q12 : xs (nI i).toNatClampNeg &&& 31 = 12
      · rw [if_pos q12]
        exact q_L_444 r hi3 hL hn
      rw [if_neg q12]
      by_cases q13 : xs (nI i).toNatClampNeg &&& 31 = 13
      · rw [if_pos q13]
        exact q_L_467 r hi3 hL hn
      rw [if_neg q13]
      by_cases q14 : xs (nI i).toNatClampNeg &&& 31 = 14
      · rw [if_pos q14]
        exact q_L_500 r hi3 hL hn
      rw [if_neg q14]
      by_cases q15 : xs (nI i).toNatClampNeg &&& 31 = 15
      · rw [if_pos q15]
        exact q_L_523 r hi3 hL hn
      rw [if_neg q15]
      by_cases q16 : xs (nI i).toNatClampNeg &&& 31 = 16
      · rw [if_pos q16]
        exact q_L_556 r hi3 hL hn
      rw [if_neg q16]
      by_cases q17 : xs (nI i).toNatClampNeg &&& 31 = 17
      · rw [if_pos q17]
        exact q_L_589 r hi3 hL hn
      rw [if_neg q17]
      by_cases q18 : xs (nI i).toNatClampNeg &&& 31 = 18
      · rw [if_pos q18]
        exact q_L_612 r hi3 hL hn
      rw [if_neg q18]
      by_cases q19 : xs (nI i).toNatClampNeg &&& 31 = 19
      · rw [if_pos q19]
        exact q_L_645 r hi3 hL hn
      rw [if_neg q19]
      by_cases q20 : xs (nI i).toNatClampNeg &&& 31 = 20
      · rw [if_pos q20]
        exact q_L_678 r hi3 hL hn
      rw [if_neg q20]
      by_cases q21 : xs (nI i).toNatClampNeg &&& 31 = 21
      · rw [if_pos q21]
        exact q_L_701 r hi3 hL hn
      rw [if_neg q21]
      by_cases q22 : xs (nI i).toNatClampNeg &&& 31 = 22
      · rw [if_pos q22]
        exact q_L_724 r hi3 hL hn
      rw [if_neg q22]
      by_cases q23 : xs (nI i).toNatClampNeg &&& 31 = 23
      · rw [if_pos q23]
        exact q_L_767 r hi3 hL hn
      rw [if_neg q23]
      by_cases q24 : xs (nI i).toNatClampNeg &&& 31 = 24
      · rw [if_pos q24]
        exact q_L_780 r hi3 hL hn
      rw [if_neg q24]
      by_cases q25 : xs (nI i).toNatClampNeg &&& 31 = 25
      · rw [if_pos q25]
        exact q_L_823 r hi3 hL hn
      rw [if_neg q25]
      by_cases q26 : xs (nI i).toNatClampNeg &&& 31 = 26
      · rw [if_pos q26]
        exact q_L_867 r hi3 hL hn
      rw [if_neg q26]
      by_cases q27 : xs (nI i).toNatClampNeg &&& 31 = 27
      · rw [if_pos q27]
        exact q_L_910 r hi3 hL hn
      rw [if_neg q27]
      by_cases q28 : xs (nI i).toNatClampNeg &&& 31 = 28
      · rw [if_pos q28]
        exact q_L_933 r hi3 hL hn
      rw [if_neg q28]
      by_cases q29 : xs (nI i).toNatClampNeg &&& 31 = 29
      · rw [if_pos q29]
        exact q_L_956 r hi3 hL hn
      rw [if_neg q29]
      exact hn μ r
end LL
