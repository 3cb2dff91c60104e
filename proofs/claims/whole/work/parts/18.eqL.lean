set_option maxRecDepth 20000 in
theorem fL_law_eq (v3 : Int32) (M : mM) : fL_law v3 M = fL_law_L18 0 M := by
  refine (mx_steps 2 (pc' := 18) (ls' := [(0, mR 50 0 0), (1, mR 2 0 0), (2, mR 3 0 0), (3, mI 0)]) (st' := []) (M' := M) rfl).trans ?_
  rfl

set_option maxRecDepth 20000 in
theorem fL_law_L18_eq (v3 : Int32) (M : mM) : fL_law_L18 v3 M = (if ((Int32.ofNat (M.1 51 0 0).toNatClampNeg) - 4) < v3 then some (1, M) else (mi_ix v3 (M.1 51 0 0).toNatClampNeg).bind fun k1 => (if ((M.1 50 0 k1) &&& 31) = 0 then (mi_ix (v3 + 1) (M.1 51 0 0).toNatClampNeg).bind fun k2 => (mi_ix (v3 + 2) (M.1 51 0 0).toNatClampNeg).bind fun k3 => (fX_node (M.1 50 0 k2) (M.1 50 0 k3) M).bind fun q4 => (mi_ix (v3 + 1) (q4.2.1 51 0 0).toNatClampNeg).bind fun k5 => (mi_ix (v3 + 2) (q4.2.1 51 0 0).toNatClampNeg).bind fun k6 => (fM_node (q4.2.1 50 0 k5) (q4.2.1 50 0 k6) q4.2).bind fun q7 => (if q4.1 = q7.1 then fL_law_L18 (v3 + 4) q7.2 else some (0, q7.2)) else (if ((M.1 50 0 k1) &&& 31) = 1 then (mi_ix (v3 + 1) (M.1 51 0 0).toNatClampNeg).bind fun k8 => (mi_ix (v3 + 2) (M.1 51 0 0).toNatClampNeg).bind fun k9 => (mi_ix (v3 + 3) (M.1 51 0 0).toNatClampNeg).bind fun k10 => (fX_link (M.1 50 0 k8) (M.1 50 0 k9) (M.1 50 0 k10) M).bind fun q11 => (mi_ix (v3 + 1) (q11.2.1 51 0 0).toNatClampNeg).bind fun k12 => (mi_ix (v3 + 2) (q11.2.1 51 0 0).toNatClampNeg).bind fun k13 => (mi_ix (v3 + 3) (q11.2.1 51 0 0).toNatClampNeg).bind fun k14 => (fM_link (q11.2.1 50 0 k12) (q11.2.1 50 0 k13) (q11.2.1 50 0 k14) q11.2).bind fun q15 => (if q11.1 = q15.1 then fL_law_L18 (v3 + 4) q15.2 else some (0, q15.2)) else (if ((M.1 50 0 k1) &&& 31) = 2 then (mi_ix (v3 + 1) (M.1 51 0 0).toNatClampNeg).bind fun k16 => (mi_ix (v3 + 2) (M.1 51 0 0).toNatClampNeg).bind fun k17 => (mi_ix (v3 + 3) (M.1 51 0 0).toNatClampNeg).bind fun k18 => (fX_owns (M.1 50 0 k16) (M.1 50 0 k17) (M.1 50 0 k18) M).bind fun q19 => (mi_ix (v3 + 1) (q19.2.1 51 0 0).toNatClampNeg).bind fun k20 => (mi_ix (v3 + 2) (q19.2.1 51 0 0).toNatClampNeg).bind fun k21 => (mi_ix (v3 + 3) (q19.2.1 51 0 0).toNatClampNeg).bind fun k22 => (fM_owns (q19.2.1 50 0 k20) (q19.2.1 50 0 k21) (q19.2.1 50 0 k22) q19.2).bind fun q23 => (if q19.1 = q23.1 then fL_law_L18 (v3 + 4) q23.2 else some (0, q23.2)) else (if ((M.1 50 0 k1) &&& 31) = 3 then (mi_ix (v3 + 1) (M.1 51 0 0).toNatClampNeg).bind fun k24 => (fX_turns (M.1 50 0 k24) M).bind fun q25 => (mi_ix (v3 + 1) (q25.2.1 51 0 0).toNatClampNeg).bind fun k26 => (fM_turns (q25.2.1 50 0 k26) q25.2).bind fun q27 => (if q25.1 = q27.1 then fL_law_L18 (v3 + 4) q27.2 else some (0, q27.2)) else (if ((M.1 50 0 k1) &&& 31) = 4 then (mi_ix (v3 + 1) (M.1 51 0 0).toNatClampNeg).bind fun k28 => (mi_ix (v3 + 2) (M.1 51 0 0).toNatClampNeg).bind fun k29 => (fX_sets (M.1 50 0 k28) (M.1 50 0 k29) M).bind fun q30 => (mi_ix (v3 + 1) (q30.2.1 51 0 0).toNatClampNeg).bind fun k31 => (mi_ix (v3 + 2) (q30.2.1 51 0 0).toNatClampNeg).bind fun k32 => (fM_sets (q30.2.1 50 0 k31) (q30.2.1 50 0 k32) q30.2).bind fun q33 => (if q30.1 = q33.1 then fL_law_L18 (v3 + 4) q33.2 else some (0, q33.2)) else (if ((M.1 50 0 k1) &&& 31) = 5 then (mi_ix (v3 + 1) (M.1 51 0 0).toNatClampNeg).bind fun k34 => (fX_clears (M.1 50 0 k34) M).bind fun q35 => (mi_ix (v3 + 1) (q35.2.1 51 0 0).toNatClampNeg).bind fun k36 => (fM_clears (q35.2.1 50 0 k36) q35.2).bind fun q37 => (if q35.1 = q37.1 then fL_law_L18 (v3 + 4) q37.2 else some (0, q37.2)) else (if ((M.1 50 0 k1) &&& 31) = 6 then (mi_ix (v3 + 1) (M.1 51 0 0).toNatClampNeg).bind fun k38 => (fX_looks (M.1 50 0 k38) M).bind fun q39 => (mi_ix (v3 + 1) (q39.2.1 51 0 0).toNatClampNeg).bind fun k40 => (fM_looks (q39.2.1 50 0 k40) q39.2).bind fun q41 => (if q39.1 = q41.1 then fL_law_L18 (v3 + 4) q41.2 else some (0, q41.2)) else (if ((M.1 50 0 k1) &&& 31) = 7 then (mi_ix (v3 + 1) (M.1 51 0 0).toNatClampNeg).bind fun k42 => (fX_ticks (M.1 50 0 k42) M).bind fun q43 => (mi_ix (v3 + 1) (q43.2.1 51 0 0).toNatClampNeg).bind fun k44 => (fM_ticks (q43.2.1 50 0 k44) q43.2).bind fun q45 => (if q43.1 = q45.1 then fL_law_L18 (v3 + 4) q45.2 else some (0, q45.2)) else (if ((M.1 50 0 k1) &&& 31) = 8 then (mi_ix (v3 + 1) (M.1 51 0 0).toNatClampNeg).bind fun k46 => (mi_ix (v3 + 2) (M.1 51 0 0).toNatClampNeg).bind fun k47 => (fX_of (M.1 50 0 k46) (M.1 50 0 k47) M).bind fun q48 => (mi_ix (v3 + 1) (q48.2.1 51 0 0).toNatClampNeg).bind fun k49 => (mi_ix (v3 + 2) (q48.2.1 51 0 0).toNatClampNeg).bind fun k50 => (fM_of (q48.2.1 50 0 k49) (q48.2.1 50 0 k50) q48.2).bind fun q51 => (if q48.1 = q51.1 then fL_law_L18 (v3 + 4) q51.2 else some (0, q51.2)) else (if ((M.1 50 0 k1) &&& 31) = 9 then (mi_ix (v3 + 1) (M.1 51 0 0).toNatClampNeg).bind fun k52 => (mi_ix (v3 + 2) (M.1 51 0 0).toNatClampNeg).bind fun k53 => (fX_offers (M.1 50 0 k52) (M.1 50 0 k53) M).bind fun q54 => (mi_ix (v3 + 1) (q54.2.1 51 0 0).toNatClampNeg).bind fun k55 => (mi_ix (v3 + 2) (q54.2.1 51 0 0).toNatClampNeg).bind fun k56 => (fM_offers (q54.2.1 50 0 k55) (q54.2.1 50 0 k56) q54.2).bind fun q57 => (if q54.1 = q57.1 then fL_law_L18 (v3 + 4) q57.2 else some (0, q57.2)) else (if ((M.1 50 0 k1) &&& 31) = 10 then (mi_ix (v3 + 1) (M.1 51 0 0).toNatClampNeg).bind fun k58 => (fX_would (M.1 50 0 k58) M).bind fun q59 => (mi_ix (v3 + 1) (q59.2.1 51 0 0).toNatClampNeg).bind fun k60 => (fM_would (q59.2.1 50 0 k60) q59.2).bind fun q61 => (if q59.1 = q61.1 then fL_law_L18 (v3 + 4) q61.2 else some (0, q61.2)) else (if ((M.1 50 0 k1) &&& 31) = 11 then (mi_ix (v3 + 1) (M.1 51 0 0).toNatClampNeg).bind fun k62 => (mi_ix (v3 + 2) (M.1 51 0 0).toNatClampNeg).bind fun k63 => (fX_chain (M.1 50 0 k62) (M.1 50 0 k63) M).bind fun q64 => (mi_ix (v3 + 1) (q64.2.1 51 0 0).toNatClampNeg).bind fun k65 => (mi_ix (v3 + 2) (q64.2.1 51 0 0).toNatClampNeg).bind fun k66 => (fM_chain (q64.2.1 50 0 k65) (q64.2.1 50 0 k66) q64.2).bind fun q67 => (if q64.1 = q67.1 then fL_law_L18 (v3 + 4) q67.2 else some (0, q67.2)) else (if ((M.1 50 0 k1) &&& 31) = 12 then (mi_ix (v3 + 1) (M.1 51 0 0).toNatClampNeg).bind fun k68 => (fX_ring (M.1 50 0 k68) M).bind fun q69 => (mi_ix (v3 + 1) (q69.2.1 51 0 0).toNatClampNeg).bind fun k70 => (fM_ring (q69.2.1 50 0 k70) q69.2).bind fun q71 => (if q69.1 = q71.1 then fL_law_L18 (v3 + 4) q71.2 else some (0, q71.2)) else (if ((M.1 50 0 k1) &&& 31) = 13 then (fX_settles M).bind fun q72 => (fM_settles q72.2).bind fun q73 => (if q72.1 = q73.1 then fL_law_L18 (v3 + 4) q73.2 else some (0, q73.2)) else (if ((M.1 50 0 k1) &&& 31) = 14 then (mi_ix (v3 + 1) (M.1 51 0 0).toNatClampNeg).bind fun k74 => (mi_ix (v3 + 2) (M.1 51 0 0).toNatClampNeg).bind fun k75 => (fX_about (M.1 50 0 k74) (M.1 50 0 k75) M).bind fun q76 => (mi_ix (v3 + 1) (q76.2.1 51 0 0).toNatClampNeg).bind fun k77 => (mi_ix (v3 + 2) (q76.2.1 51 0 0).toNatClampNeg).bind fun k78 => (fM_about (q76.2.1 50 0 k77) (q76.2.1 50 0 k78) q76.2).bind fun q79 => (if q76.1 = q79.1 then fL_law_L18 (v3 + 4) q79.2 else some (0, q79.2)) else (if ((M.1 50 0 k1) &&& 31) = 15 then (mi_ix (v3 + 1) (M.1 51 0 0).toNatClampNeg).bind fun k80 => (fX_till (M.1 50 0 k80) M).bind fun q81 => (mi_ix (v3 + 1) (q81.2.1 51 0 0).toNatClampNeg).bind fun k82 => (fM_till (q81.2.1 50 0 k82) q81.2).bind fun q83 => (if q81.1 = q83.1 then fL_law_L18 (v3 + 4) q83.2 else some (0, q83.2)) else (if ((M.1 50 0 k1) &&& 31) = 16 then (mi_ix (v3 + 1) (M.1 51 0 0).toNatClampNeg).bind fun k84 => (fX_count (M.1 50 0 k84) M).bind fun q85 => (mi_ix (v3 + 1) (q85.2.1 51 0 0).toNatClampNeg).bind fun k86 => (fM_count (q85.2.1 50 0 k86) q85.2).bind fun q87 => (if q85.1 = q87.1 then fL_law_L18 (v3 + 4) q87.2 else some (0, q87.2)) else (if ((M.1 50 0 k1) &&& 31) = 17 then (mi_ix (v3 + 1) (M.1 51 0 0).toNatClampNeg).bind fun k88 => (fX_type (M.1 50 0 k88) M).bind fun q89 => (mi_ix (v3 + 1) (q89.2.1 51 0 0).toNatClampNeg).bind fun k90 => (fM_type (q89.2.1 50 0 k90) q89.2).bind fun q91 => (if q89.1 = q91.1 then fL_law_L18 (v3 + 4) q91.2 else some (0, q91.2)) else (if ((M.1 50 0 k1) &&& 31) = 18 then (fX_clear M).bind fun q92 => (fM_clear q92.2).bind fun q93 => (if q92.1 = q93.1 then fL_law_L18 (v3 + 4) q93.2 else some (0, q93.2)) else (if ((M.1 50 0 k1) &&& 31) = 19 then (fX_does M).bind fun q94 => (fM_does q94.2).bind fun q95 => (if q94.1 = q95.1 then fL_law_L18 (v3 + 4) q95.2 else some (0, q95.2)) else (if ((M.1 50 0 k1) &&& 31) = 20 then (fX_back M).bind fun q96 => (fM_back q96.2).bind fun q97 => (if q96.1 = q97.1 then fL_law_L18 (v3 + 4) q97.2 else some (0, q97.2)) else (if ((M.1 50 0 k1) &&& 31) = 21 then (mi_ix (v3 + 1) (M.1 51 0 0).toNatClampNeg).bind fun k98 => (fX_told (M.1 50 0 k98) M).bind fun q99 => (mi_ix (v3 + 1) (q99.2.1 51 0 0).toNatClampNeg).bind fun k100 => (fM_told (q99.2.1 50 0 k100) q99.2).bind fun q101 => (if q99.1 = q101.1 then fL_law_L18 (v3 + 4) q101.2 else some (0, q101.2)) else (if ((M.1 50 0 k1) &&& 31) = 22 then (fX_digest M).bind fun q102 => (fM_digest q102.2).bind fun q103 => (if (lg_cmp q102.1 q103.1) = 0 then fL_law_L18 (v3 + 4) q103.2 else some (0, q103.2)) else fL_law_L18 (v3 + 4) M)))))))))))))))))))))))) := by
  refine (mx_steps 5 (pc' := 23) (ls' := [(0, mR 50 0 0), (1, mR 2 0 0), (2, mR 3 0 0), (3, mI v3)]) (st' := [mI ((Int32.ofNat (M.1 51 0 0).toNatClampNeg) - 4), mI v3]) (M' := M) rfl).trans ?_
  refine (mx_if (c := ((Int32.ofNat (M.1 51 0 0).toNatClampNeg) - 4) < v3) (p1 := 726) (l1 := [(0, mR 50 0 0), (1, mR 2 0 0), (2, mR 3 0 0), (3, mI v3)]) (s1 := []) (M1 := M) (p2 := 26) (l2 := [(0, mR 50 0 0), (1, mR 2 0 0), (2, mR 3 0 0), (3, mI v3)]) (s2 := []) (M2 := M) rfl).trans ?_
  refine mi_itc ?_ ?_
  · refine (mx_steps 1 (pc' := 727) (ls' := [(0, mR 50 0 0), (1, mR 2 0 0), (2, mR 3 0 0), (3, mI v3)]) (st' := [mI 1]) (M' := M) rfl).trans ?_
    exact mx_ret rfl rfl
  · refine (mx_steps 2 (pc' := 28) (ls' := [(0, mR 50 0 0), (1, mR 2 0 0), (2, mR 3 0 0), (3, mI v3)]) (st' := [mI v3, mR 50 0 0]) (M' := M) rfl).trans ?_
    refine (mx_ix (i := v3) (n := (M.1 51 0 0).toNatClampNeg) (pc' := 29) (ls' := [(0, mR 50 0 0), (1, mR 2 0 0), (2, mR 3 0 0), (3, mI v3)]) (sf := fun k1 => [mI (M.1 50 0 k1)]) (Mf := fun k1 => M) rfl).trans ?_
    refine mi_bdc fun k1 => ?_
    refine (mx_steps 2 (pc' := 32) (ls' := [(0, mR 50 0 0), (1, mR 2 0 0), (2, mR 3 0 0), (3, mI v3)]) (st' := [mI ((M.1 50 0 k1) &&& 31)]) (M' := M) rfl).trans ?_
    refine (mx_table (x := ((M.1 50 0 k1) &&& 31)) (lo := 0) (ts := [140, 173, 216, 259, 282, 315, 338, 361, 384, 417, 450, 473, 506, 529, 542, 575, 598, 621, 644, 657, 670, 683, 706]) (d := 720) rfl).trans ?_
    refine mi_swc (F := fun tg => mi_ex mi_pI 143 tg (mi_jmp 143 tg [(0, mR 50 0 0), (1, mR 2 0 0), (2, mR 3 0 0), (3, mI v3)]) [] M) (k := 0) rfl ?_ ?_
    · show mi_ex mi_pI 143 140 [(0, mR 50 0 0), (1, mR 2 0 0), (2, mR 3 0 0), (3, mI v3)] [] M = _
      refine (mx_steps 5 (pc' := 145) (ls' := [(0, mR 50 0 0), (1, mR 2 0 0), (2, mR 3 0 0), (3, mI v3)]) (st' := [mI (v3 + 1), mR 50 0 0, mR 2 0 0]) (M' := M) rfl).trans ?_
      refine (mx_ix (i := v3 + 1) (n := (M.1 51 0 0).toNatClampNeg) (pc' := 146) (ls' := [(0, mR 50 0 0), (1, mR 2 0 0), (2, mR 3 0 0), (3, mI v3)]) (sf := fun k2 => [mI (M.1 50 0 k2), mR 2 0 0]) (Mf := fun k2 => M) rfl).trans ?_
      refine mi_bdc fun k2 => ?_
      refine (mx_steps 4 (pc' := 150) (ls' := [(0, mR 50 0 0), (1, mR 2 0 0), (2, mR 3 0 0), (3, mI v3)]) (st' := [mI (v3 + 2), mR 50 0 0, mI (M.1 50 0 k2), mR 2 0 0]) (M' := M) rfl).trans ?_
      refine (mx_ix (i := v3 + 2) (n := (M.1 51 0 0).toNatClampNeg) (pc' := 151) (ls' := [(0, mR 50 0 0), (1, mR 2 0 0), (2, mR 3 0 0), (3, mI v3)]) (sf := fun k3 => [mI (M.1 50 0 k3), mI (M.1 50 0 k2), mR 2 0 0]) (Mf := fun k3 => M) rfl).trans ?_
      refine mi_bdc fun k3 => ?_
      refine (mx_callI (z := 39) (as := [mR 2 0 0, mI (M.1 50 0 k2), mI (M.1 50 0 k3)]) (pc' := 154) (ls' := [(0, mR 50 0 0), (1, mR 2 0 0), (2, mR 3 0 0), (3, mI v3)]) (r := []) rfl (Or.inl rfl)).trans ?_
      refine mi_bdc fun q4 => ?_
      refine (mx_steps 5 (pc' := 159) (ls' := [(0, mR 50 0 0), (1, mR 2 0 0), (2, mR 3 0 0), (3, mI v3)]) (st' := [mI (v3 + 1), mR 50 0 0, mR 3 0 0, mI q4.1]) (M' := q4.2) rfl).trans ?_
      refine (mx_ix (i := v3 + 1) (n := (q4.2.1 51 0 0).toNatClampNeg) (pc' := 160) (ls' := [(0, mR 50 0 0), (1, mR 2 0 0), (2, mR 3 0 0), (3, mI v3)]) (sf := fun k5 => [mI (q4.2.1 50 0 k5), mR 3 0 0, mI q4.1]) (Mf := fun k5 => q4.2) rfl).trans ?_
      refine mi_bdc fun k5 => ?_
      refine (mx_steps 4 (pc' := 164) (ls' := [(0, mR 50 0 0), (1, mR 2 0 0), (2, mR 3 0 0), (3, mI v3)]) (st' := [mI (v3 + 2), mR 50 0 0, mI (q4.2.1 50 0 k5), mR 3 0 0, mI q4.1]) (M' := q4.2) rfl).trans ?_
      refine (mx_ix (i := v3 + 2) (n := (q4.2.1 51 0 0).toNatClampNeg) (pc' := 165) (ls' := [(0, mR 50 0 0), (1, mR 2 0 0), (2, mR 3 0 0), (3, mI v3)]) (sf := fun k6 => [mI (q4.2.1 50 0 k6), mI (q4.2.1 50 0 k5), mR 3 0 0, mI q4.1]) (Mf := fun k6 => q4.2) rfl).trans ?_
      refine mi_bdc fun k6 => ?_
      refine (mx_callI (z := 103) (as := [mR 3 0 0, mI (q4.2.1 50 0 k5), mI (q4.2.1 50 0 k6)]) (pc' := 168) (ls' := [(0, mR 50 0 0), (1, mR 2 0 0), (2, mR 3 0 0), (3, mI v3)]) (r := [mI q4.1]) rfl (Or.inl rfl)).trans ?_
      refine mi_bdc fun q7 => ?_
      refine (mx_if (c := q4.1 = q7.1) (p1 := 720) (l1 := [(0, mR 50 0 0), (1, mR 2 0 0), (2, mR 3 0 0), (3, mI v3)]) (s1 := []) (M1 := q7.2) (p2 := 171) (l2 := [(0, mR 50 0 0), (1, mR 2 0 0), (2, mR 3 0 0), (3, mI v3)]) (s2 := []) (M2 := q7.2) rfl).trans ?_
      refine mi_itc ?_ ?_
      · refine (mx_steps 2 (pc' := 18) (ls' := [(0, mR 50 0 0), (1, mR 2 0 0), (2, mR 3 0 0), (3, mI (v3 + 4))]) (st' := []) (M' := q7.2) rfl).trans ?_
        rfl
      · refine (mx_steps 1 (pc' := 172) (ls' := [(0, mR 50 0 0), (1, mR 2 0 0), (2, mR 3 0 0), (3, mI v3)]) (st' := [mI 0]) (M' := q7.2) rfl).trans ?_
        exact mx_ret rfl rfl
    refine mi_swc (F := fun tg => mi_ex mi_pI 143 tg (mi_jmp 143 tg [(0, mR 50 0 0), (1, mR 2 0 0), (2, mR 3 0 0), (3, mI v3)]) [] M) (k := 1) rfl ?_ ?_
    · show mi_ex mi_pI 143 173 [(0, mR 50 0 0), (1, mR 2 0 0), (2, mR 3 0 0), (3, mI v3)] [] M = _
      refine (mx_steps 5 (pc' := 178) (ls' := [(0, mR 50 0 0), (1, mR 2 0 0), (2, mR 3 0 0), (3, mI v3)]) (st' := [mI (v3 + 1), mR 50 0 0, mR 2 0 0]) (M' := M) rfl).trans ?_
      refine (mx_ix (i := v3 + 1) (n := (M.1 51 0 0).toNatClampNeg) (pc' := 179) (ls' := [(0, mR 50 0 0), (1, mR 2 0 0), (2, mR 3 0 0), (3, mI v3)]) (sf := fun k8 => [mI (M.1 50 0 k8), mR 2 0 0]) (Mf := fun k8 => M) rfl).trans ?_
      refine mi_bdc fun k8 => ?_
      refine (mx_steps 4 (pc' := 183) (ls' := [(0, mR 50 0 0), (1, mR 2 0 0), (2, mR 3 0 0), (3, mI v3)]) (st' := [mI (v3 + 2), mR 50 0 0, mI (M.1 50 0 k8), mR 2 0 0]) (M' := M) rfl).trans ?_
      refine (mx_ix (i := v3 + 2) (n := (M.1 51 0 0).toNatClampNeg) (pc' := 184) (ls' := [(0, mR 50 0 0), (1, mR 2 0 0), (2, mR 3 0 0), (3, mI v3)]) (sf := fun k9 => [mI (M.1 50 0 k9), mI (M.1 50 0 k8), mR 2 0 0]) (Mf := fun k9 => M) rfl).trans ?_
      refine mi_bdc fun k9 => ?_
      refine (mx_steps 4 (pc' := 188) (ls' := [(0, mR 50 0 0), (1, mR 2 0 0), (2, mR 3 0 0), (3, mI v3)]) (st' := [mI (v3 + 3), mR 50 0 0, mI (M.1 50 0 k9), mI (M.1 50 0 k8), mR 2 0 0]) (M' := M) rfl).trans ?_
      refine (mx_ix (i := v3 + 3) (n := (M.1 51 0 0).toNatClampNeg) (pc' := 189) (ls' := [(0, mR 50 0 0), (1, mR 2 0 0), (2, mR 3 0 0), (3, mI v3)]) (sf := fun k10 => [mI (M.1 50 0 k10), mI (M.1 50 0 k9), mI (M.1 50 0 k8), mR 2 0 0]) (Mf := fun k10 => M) rfl).trans ?_
      refine mi_bdc fun k10 => ?_
      refine (mx_callI (z := 40) (as := [mR 2 0 0, mI (M.1 50 0 k8), mI (M.1 50 0 k9), mI (M.1 50 0 k10)]) (pc' := 192) (ls' := [(0, mR 50 0 0), (1, mR 2 0 0), (2, mR 3 0 0), (3, mI v3)]) (r := []) rfl (Or.inl rfl)).trans ?_
      refine mi_bdc fun q11 => ?_
      refine (mx_steps 5 (pc' := 197) (ls' := [(0, mR 50 0 0), (1, mR 2 0 0), (2, mR 3 0 0), (3, mI v3)]) (st' := [mI (v3 + 1), mR 50 0 0, mR 3 0 0, mI q11.1]) (M' := q11.2) rfl).trans ?_
      refine (mx_ix (i := v3 + 1) (n := (q11.2.1 51 0 0).toNatClampNeg) (pc' := 198) (ls' := [(0, mR 50 0 0), (1, mR 2 0 0), (2, mR 3 0 0), (3, mI v3)]) (sf := fun k12 => [mI (q11.2.1 50 0 k12), mR 3 0 0, mI q11.1]) (Mf := fun k12 => q11.2) rfl).trans ?_
      refine mi_bdc fun k12 => ?_
      refine (mx_steps 4 (pc' := 202) (ls' := [(0, mR 50 0 0), (1, mR 2 0 0), (2, mR 3 0 0), (3, mI v3)]) (st' := [mI (v3 + 2), mR 50 0 0, mI (q11.2.1 50 0 k12), mR 3 0 0, mI q11.1]) (M' := q11.2) rfl).trans ?_
      refine (mx_ix (i := v3 + 2) (n := (q11.2.1 51 0 0).toNatClampNeg) (pc' := 203) (ls' := [(0, mR 50 0 0), (1, mR 2 0 0), (2, mR 3 0 0), (3, mI v3)]) (sf := fun k13 => [mI (q11.2.1 50 0 k13), mI (q11.2.1 50 0 k12), mR 3 0 0, mI q11.1]) (Mf := fun k13 => q11.2) rfl).trans ?_
      refine mi_bdc fun k13 => ?_
      refine (mx_steps 4 (pc' := 207) (ls' := [(0, mR 50 0 0), (1, mR 2 0 0), (2, mR 3 0 0), (3, mI v3)]) (st' := [mI (v3 + 3), mR 50 0 0, mI (q11.2.1 50 0 k13), mI (q11.2.1 50 0 k12), mR 3 0 0, mI q11.1]) (M' := q11.2) rfl).trans ?_
      refine (mx_ix (i := v3 + 3) (n := (q11.2.1 51 0 0).toNatClampNeg) (pc' := 208) (ls' := [(0, mR 50 0 0), (1, mR 2 0 0), (2, mR 3 0 0), (3, mI v3)]) (sf := fun k14 => [mI (q11.2.1 50 0 k14), mI (q11.2.1 50 0 k13), mI (q11.2.1 50 0 k12), mR 3 0 0, mI q11.1]) (Mf := fun k14 => q11.2) rfl).trans ?_
      refine mi_bdc fun k14 => ?_
      refine (mx_callI (z := 104) (as := [mR 3 0 0, mI (q11.2.1 50 0 k12), mI (q11.2.1 50 0 k13), mI (q11.2.1 50 0 k14)]) (pc' := 211) (ls' := [(0, mR 50 0 0), (1, mR 2 0 0), (2, mR 3 0 0), (3, mI v3)]) (r := [mI q11.1]) rfl (Or.inl rfl)).trans ?_
      refine mi_bdc fun q15 => ?_
      refine (mx_if (c := q11.1 = q15.1) (p1 := 720) (l1 := [(0, mR 50 0 0), (1, mR 2 0 0), (2, mR 3 0 0), (3, mI v3)]) (s1 := []) (M1 := q15.2) (p2 := 214) (l2 := [(0, mR 50 0 0), (1, mR 2 0 0), (2, mR 3 0 0), (3, mI v3)]) (s2 := []) (M2 := q15.2) rfl).trans ?_
      refine mi_itc ?_ ?_
      · refine (mx_steps 2 (pc' := 18) (ls' := [(0, mR 50 0 0), (1, mR 2 0 0), (2, mR 3 0 0), (3, mI (v3 + 4))]) (st' := []) (M' := q15.2) rfl).trans ?_
        rfl
      · refine (mx_steps 1 (pc' := 215) (ls' := [(0, mR 50 0 0), (1, mR 2 0 0), (2, mR 3 0 0), (3, mI v3)]) (st' := [mI 0]) (M' := q15.2) rfl).trans ?_
        exact mx_ret rfl rfl
    refine mi_swc (F := fun tg => mi_ex mi_pI 143 tg (mi_jmp 143 tg [(0, mR 50 0 0), (1, mR 2 0 0), (2, mR 3 0 0), (3, mI v3)]) [] M) (k := 2) rfl ?_ ?_
    · show mi_ex mi_pI 143 216 [(0, mR 50 0 0), (1, mR 2 0 0), (2, mR 3 0 0), (3, mI v3)] [] M = _
      refine (mx_steps 5 (pc' := 221) (ls' := [(0, mR 50 0 0), (1, mR 2 0 0), (2, mR 3 0 0), (3, mI v3)]) (st' := [mI (v3 + 1), mR 50 0 0, mR 2 0 0]) (M' := M) rfl).trans ?_
      refine (mx_ix (i := v3 + 1) (n := (M.1 51 0 0).toNatClampNeg) (pc' := 222) (ls' := [(0, mR 50 0 0), (1, mR 2 0 0), (2, mR 3 0 0), (3, mI v3)]) (sf := fun k16 => [mI (M.1 50 0 k16), mR 2 0 0]) (Mf := fun k16 => M) rfl).trans ?_
      refine mi_bdc fun k16 => ?_
      refine (mx_steps 4 (pc' := 226) (ls' := [(0, mR 50 0 0), (1, mR 2 0 0), (2, mR 3 0 0), (3, mI v3)]) (st' := [mI (v3 + 2), mR 50 0 0, mI (M.1 50 0 k16), mR 2 0 0]) (M' := M) rfl).trans ?_
      refine (mx_ix (i := v3 + 2) (n := (M.1 51 0 0).toNatClampNeg) (pc' := 227) (ls' := [(0, mR 50 0 0), (1, mR 2 0 0), (2, mR 3 0 0), (3, mI v3)]) (sf := fun k17 => [mI (M.1 50 0 k17), mI (M.1 50 0 k16), mR 2 0 0]) (Mf := fun k17 => M) rfl).trans ?_
      refine mi_bdc fun k17 => ?_
      refine (mx_steps 4 (pc' := 231) (ls' := [(0, mR 50 0 0), (1, mR 2 0 0), (2, mR 3 0 0), (3, mI v3)]) (st' := [mI (v3 + 3), mR 50 0 0, mI (M.1 50 0 k17), mI (M.1 50 0 k16), mR 2 0 0]) (M' := M) rfl).trans ?_
      refine (mx_ix (i := v3 + 3) (n := (M.1 51 0 0).toNatClampNeg) (pc' := 232) (ls' := [(0, mR 50 0 0), (1, mR 2 0 0), (2, mR 3 0 0), (3, mI v3)]) (sf := fun k18 => [mI (M.1 50 0 k18), mI (M.1 50 0 k17), mI (M.1 50 0 k16), mR 2 0 0]) (Mf := fun k18 => M) rfl).trans ?_
      refine mi_bdc fun k18 => ?_
      refine (mx_callI (z := 41) (as := [mR 2 0 0, mI (M.1 50 0 k16), mI (M.1 50 0 k17), mI (M.1 50 0 k18)]) (pc' := 235) (ls' := [(0, mR 50 0 0), (1, mR 2 0 0), (2, mR 3 0 0), (3, mI v3)]) (r := []) rfl (Or.inl rfl)).trans ?_
      refine mi_bdc fun q19 => ?_
      refine (mx_steps 5 (pc' := 240) (ls' := [(0, mR 50 0 0), (1, mR 2 0 0), (2, mR 3 0 0), (3, mI v3)]) (st' := [mI (v3 + 1), mR 50 0 0, mR 3 0 0, mI q19.1]) (M' := q19.2) rfl).trans ?_
      refine (mx_ix (i := v3 + 1) (n := (q19.2.1 51 0 0).toNatClampNeg) (pc' := 241) (ls' := [(0, mR 50 0 0), (1, mR 2 0 0), (2, mR 3 0 0), (3, mI v3)]) (sf := fun k20 => [mI (q19.2.1 50 0 k20), mR 3 0 0, mI q19.1]) (Mf := fun k20 => q19.2) rfl).trans ?_
      refine mi_bdc fun k20 => ?_
      refine (mx_steps 4 (pc' := 245) (ls' := [(0, mR 50 0 0), (1, mR 2 0 0), (2, mR 3 0 0), (3, mI v3)]) (st' := [mI (v3 + 2), mR 50 0 0, mI (q19.2.1 50 0 k20), mR 3 0 0, mI q19.1]) (M' := q19.2) rfl).trans ?_
      refine (mx_ix (i := v3 + 2) (n := (q19.2.1 51 0 0).toNatClampNeg) (pc' := 246) (ls' := [(0, mR 50 0 0), (1, mR 2 0 0), (2, mR 3 0 0), (3, mI v3)]) (sf := fun k21 => [mI (q19.2.1 50 0 k21), mI (q19.2.1 50 0 k20), mR 3 0 0, mI q19.1]) (Mf := fun k21 => q19.2) rfl).trans ?_
      refine mi_bdc fun k21 => ?_
      refine (mx_steps 4 (pc' := 250) (ls' := [(0, mR 50 0 0), (1, mR 2 0 0), (2, mR 3 0 0), (3, mI v3)]) (st' := [mI (v3 + 3), mR 50 0 0, mI (q19.2.1 50 0 k21), mI (q19.2.1 50 0 k20), mR 3 0 0, mI q19.1]) (M' := q19.2) rfl).trans ?_
      refine (mx_ix (i := v3 + 3) (n := (q19.2.1 51 0 0).toNatClampNeg) (pc' := 251) (ls' := [(0, mR 50 0 0), (1, mR 2 0 0), (2, mR 3 0 0), (3, mI v3)]) (sf := fun k22 => [mI (q19.2.1 50 0 k22), mI (q19.2.1 50 0 k21), mI (q19.2.1 50 0 k20), mR 3 0 0, mI q19.1]) (Mf := fun k22 => q19.2) rfl).trans ?_
      refine mi_bdc fun k22 => ?_
      refine (mx_callI (z := 105) (as := [mR 3 0 0, mI (q19.2.1 50 0 k20), mI (q19.2.1 50 0 k21), mI (q19.2.1 50 0 k22)]) (pc' := 254) (ls' := [(0, mR 50 0 0), (1, mR 2 0 0), (2, mR 3 0 0), (3, mI v3)]) (r := [mI q19.1]) rfl (Or.inl rfl)).trans ?_
      refine mi_bdc fun q23 => ?_
      refine (mx_if (c := q19.1 = q23.1) (p1 := 720) (l1 := [(0, mR 50 0 0), (1, mR 2 0 0), (2, mR 3 0 0), (3, mI v3)]) (s1 := []) (M1 := q23.2) (p2 := 257) (l2 := [(0, mR 50 0 0), (1, mR 2 0 0), (2, mR 3 0 0), (3, mI v3)]) (s2 := []) (M2 := q23.2) rfl).trans ?_
      refine mi_itc ?_ ?_
      · refine (mx_steps 2 (pc' := 18) (ls' := [(0, mR 50 0 0), (1, mR 2 0 0), (2, mR 3 0 0), (3, mI (v3 + 4))]) (st' := []) (M' := q23.2) rfl).trans ?_
        rfl
      · refine (mx_steps 1 (pc' := 258) (ls' := [(0, mR 50 0 0), (1, mR 2 0 0), (2, mR 3 0 0), (3, mI v3)]) (st' := [mI 0]) (M' := q23.2) rfl).trans ?_
        exact mx_ret rfl rfl
    refine mi_swc (F := fun tg => mi_ex mi_pI 143 tg (mi_jmp 143 tg [(0, mR 50 0 0), (1, mR 2 0 0), (2, mR 3 0 0), (3, mI v3)]) [] M) (k := 3) rfl ?_ ?_
    · show mi_ex mi_pI 143 259 [(0, mR 50 0 0), (1, mR 2 0 0), (2, mR 3 0 0), (3, mI v3)] [] M = _
      refine (mx_steps 5 (pc' := 264) (ls' := [(0, mR 50 0 0), (1, mR 2 0 0), (2, mR 3 0 0), (3, mI v3)]) (st' := [mI (v3 + 1), mR 50 0 0, mR 2 0 0]) (M' := M) rfl).trans ?_
      refine (mx_ix (i := v3 + 1) (n := (M.1 51 0 0).toNatClampNeg) (pc' := 265) (ls' := [(0, mR 50 0 0), (1, mR 2 0 0), (2, mR 3 0 0), (3, mI v3)]) (sf := fun k24 => [mI (M.1 50 0 k24), mR 2 0 0]) (Mf := fun k24 => M) rfl).trans ?_
      refine mi_bdc fun k24 => ?_
      refine (mx_callI (z := 42) (as := [mR 2 0 0, mI (M.1 50 0 k24)]) (pc' := 268) (ls' := [(0, mR 50 0 0), (1, mR 2 0 0), (2, mR 3 0 0), (3, mI v3)]) (r := []) rfl (Or.inl rfl)).trans ?_
      refine mi_bdc fun q25 => ?_
      refine (mx_steps 5 (pc' := 273) (ls' := [(0, mR 50 0 0), (1, mR 2 0 0), (2, mR 3 0 0), (3, mI v3)]) (st' := [mI (v3 + 1), mR 50 0 0, mR 3 0 0, mI q25.1]) (M' := q25.2) rfl).trans ?_
      refine (mx_ix (i := v3 + 1) (n := (q25.2.1 51 0 0).toNatClampNeg) (pc' := 274) (ls' := [(0, mR 50 0 0), (1, mR 2 0 0), (2, mR 3 0 0), (3, mI v3)]) (sf := fun k26 => [mI (q25.2.1 50 0 k26), mR 3 0 0, mI q25.1]) (Mf := fun k26 => q25.2) rfl).trans ?_
      refine mi_bdc fun k26 => ?_
      refine (mx_callI (z := 106) (as := [mR 3 0 0, mI (q25.2.1 50 0 k26)]) (pc' := 277) (ls' := [(0, mR 50 0 0), (1, mR 2 0 0), (2, mR 3 0 0), (3, mI v3)]) (r := [mI q25.1]) rfl (Or.inl rfl)).trans ?_
      refine mi_bdc fun q27 => ?_
      refine (mx_if (c := q25.1 = q27.1) (p1 := 720) (l1 := [(0, mR 50 0 0), (1, mR 2 0 0), (2, mR 3 0 0), (3, mI v3)]) (s1 := []) (M1 := q27.2) (p2 := 280) (l2 := [(0, mR 50 0 0), (1, mR 2 0 0), (2, mR 3 0 0), (3, mI v3)]) (s2 := []) (M2 := q27.2) rfl).trans ?_
      refine mi_itc ?_ ?_
      · refine (mx_steps 2 (pc' := 18) (ls' := [(0, mR 50 0 0), (1, mR 2 0 0), (2, mR 3 0 0), (3, mI (v3 + 4))]) (st' := []) (M' := q27.2) rfl).trans ?_
        rfl
      · refine (mx_steps 1 (pc' := 281) (ls' := [(0, mR 50 0 0), (1, mR 2 0 0), (2, mR 3 0 0), (3, mI v3)]) (st' := [mI 0]) (M' := q27.2) rfl).trans ?_
        exact mx_ret rfl rfl
    refine mi_swc (F := fun tg => mi_ex mi_pI 143 tg (mi_jmp 143 tg [(0, mR 50 0 0), (1, mR 2 0 0), (2, mR 3 0 0), (3, mI v3)]) [] M) (k := 4) rfl ?_ ?_
    · show mi_ex mi_pI 143 282 [(0, mR 50 0 0), (1, mR 2 0 0), (2, mR 3 0 0), (3, mI v3)] [] M = _
      refine (mx_steps 5 (pc' := 287) (ls' := [(0, mR 50 0 0), (1, mR 2 0 0), (2, mR 3 0 0), (3, mI v3)]) (st' := [mI (v3 + 1), mR 50 0 0, mR 2 0 0]) (M' := M) rfl).trans ?_
      refine (mx_ix (i := v3 + 1) (n := (M.1 51 0 0).toNatClampNeg) (pc' := 288) (ls' := [(0, mR 50 0 0), (1, mR 2 0 0), (2, mR 3 0 0), (3, mI v3)]) (sf := fun k28 => [mI (M.1 50 0 k28), mR 2 0 0]) (Mf := fun k28 => M) rfl).trans ?_
      refine mi_bdc fun k28 => ?_
      refine (mx_steps 4 (pc' := 292) (ls' := [(0, mR 50 0 0), (1, mR 2 0 0), (2, mR 3 0 0), (3, mI v3)]) (st' := [mI (v3 + 2), mR 50 0 0, mI (M.1 50 0 k28), mR 2 0 0]) (M' := M) rfl).trans ?_
      refine (mx_ix (i := v3 + 2) (n := (M.1 51 0 0).toNatClampNeg) (pc' := 293) (ls' := [(0, mR 50 0 0), (1, mR 2 0 0), (2, mR 3 0 0), (3, mI v3)]) (sf := fun k29 => [mI (M.1 50 0 k29), mI (M.1 50 0 k28), mR 2 0 0]) (Mf := fun k29 => M) rfl).trans ?_
      refine mi_bdc fun k29 => ?_
      refine (mx_callI (z := 43) (as := [mR 2 0 0, mI (M.1 50 0 k28), mI (M.1 50 0 k29)]) (pc' := 296) (ls' := [(0, mR 50 0 0), (1, mR 2 0 0), (2, mR 3 0 0), (3, mI v3)]) (r := []) rfl (Or.inl rfl)).trans ?_
      refine mi_bdc fun q30 => ?_
      refine (mx_steps 5 (pc' := 301) (ls' := [(0, mR 50 0 0), (1, mR 2 0 0), (2, mR 3 0 0), (3, mI v3)]) (st' := [mI (v3 + 1), mR 50 0 0, mR 3 0 0, mI q30.1]) (M' := q30.2) rfl).trans ?_
      refine (mx_ix (i := v3 + 1) (n := (q30.2.1 51 0 0).toNatClampNeg) (pc' := 302) (ls' := [(0, mR 50 0 0), (1, mR 2 0 0), (2, mR 3 0 0), (3, mI v3)]) (sf := fun k31 => [mI (q30.2.1 50 0 k31), mR 3 0 0, mI q30.1]) (Mf := fun k31 => q30.2) rfl).trans ?_
      refine mi_bdc fun k31 => ?_
      refine (mx_steps 4 (pc' := 306) (ls' := [(0, mR 50 0 0), (1, mR 2 0 0), (2, mR 3 0 0), (3, mI v3)]) (st' := [mI (v3 + 2), mR 50 0 0, mI (q30.2.1 50 0 k31), mR 3 0 0, mI q30.1]) (M' := q30.2) rfl).trans ?_
      refine (mx_ix (i := v3 + 2) (n := (q30.2.1 51 0 0).toNatClampNeg) (pc' := 307) (ls' := [(0, mR 50 0 0), (1, mR 2 0 0), (2, mR 3 0 0), (3, mI v3)]) (sf := fun k32 => [mI (q30.2.1 50 0 k32), mI (q30.2.1 50 0 k31), mR 3 0 0, mI q30.1]) (Mf := fun k32 => q30.2) rfl).trans ?_
      refine mi_bdc fun k32 => ?_
      refine (mx_callI (z := 107) (as := [mR 3 0 0, mI (q30.2.1 50 0 k31), mI (q30.2.1 50 0 k32)]) (pc' := 310) (ls' := [(0, mR 50 0 0), (1, mR 2 0 0), (2, mR 3 0 0), (3, mI v3)]) (r := [mI q30.1]) rfl (Or.inl rfl)).trans ?_
      refine mi_bdc fun q33 => ?_
      refine (mx_if (c := q30.1 = q33.1) (p1 := 720) (l1 := [(0, mR 50 0 0), (1, mR 2 0 0), (2, mR 3 0 0), (3, mI v3)]) (s1 := []) (M1 := q33.2) (p2 := 313) (l2 := [(0, mR 50 0 0), (1, mR 2 0 0), (2, mR 3 0 0), (3, mI v3)]) (s2 := []) (M2 := q33.2) rfl).trans ?_
      refine mi_itc ?_ ?_
      · refine (mx_steps 2 (pc' := 18) (ls' := [(0, mR 50 0 0), (1, mR 2 0 0), (2, mR 3 0 0), (3, mI (v3 + 4))]) (st' := []) (M' := q33.2) rfl).trans ?_
        rfl
      · refine (mx_steps 1 (pc' := 314) (ls' := [(0, mR 50 0 0), (1, mR 2 0 0), (2, mR 3 0 0), (3, mI v3)]) (st' := [mI 0]) (M' := q33.2) rfl).trans ?_
        exact mx_ret rfl rfl
    refine mi_swc (F := fun tg => mi_ex mi_pI 143 tg (mi_jmp 143 tg [(0, mR 50 0 0), (1, mR 2 0 0), (2, mR 3 0 0), (3, mI v3)]) [] M) (k := 5) rfl ?_ ?_
    · show mi_ex mi_pI 143 315 [(0, mR 50 0 0), (1, mR 2 0 0), (2, mR 3 0 0), (3, mI v3)] [] M = _
      refine (mx_steps 5 (pc' := 320) (ls' := [(0, mR 50 0 0), (1, mR 2 0 0), (2, mR 3 0 0), (3, mI v3)]) (st' := [mI (v3 + 1), mR 50 0 0, mR 2 0 0]) (M' := M) rfl).trans ?_
      refine (mx_ix (i := v3 + 1) (n := (M.1 51 0 0).toNatClampNeg) (pc' := 321) (ls' := [(0, mR 50 0 0), (1, mR 2 0 0), (2, mR 3 0 0), (3, mI v3)]) (sf := fun k34 => [mI (M.1 50 0 k34), mR 2 0 0]) (Mf := fun k34 => M) rfl).trans ?_
      refine mi_bdc fun k34 => ?_
      refine (mx_callI (z := 44) (as := [mR 2 0 0, mI (M.1 50 0 k34)]) (pc' := 324) (ls' := [(0, mR 50 0 0), (1, mR 2 0 0), (2, mR 3 0 0), (3, mI v3)]) (r := []) rfl (Or.inl rfl)).trans ?_
      refine mi_bdc fun q35 => ?_
      refine (mx_steps 5 (pc' := 329) (ls' := [(0, mR 50 0 0), (1, mR 2 0 0), (2, mR 3 0 0), (3, mI v3)]) (st' := [mI (v3 + 1), mR 50 0 0, mR 3 0 0, mI q35.1]) (M' := q35.2) rfl).trans ?_
      refine (mx_ix (i := v3 + 1) (n := (q35.2.1 51 0 0).toNatClampNeg) (pc' := 330) (ls' := [(0, mR 50 0 0), (1, mR 2 0 0), (2, mR 3 0 0), (3, mI v3)]) (sf := fun k36 => [mI (q35.2.1 50 0 k36), mR 3 0 0, mI q35.1]) (Mf := fun k36 => q35.2) rfl).trans ?_
      refine mi_bdc fun k36 => ?_
      refine (mx_callI (z := 108) (as := [mR 3 0 0, mI (q35.2.1 50 0 k36)]) (pc' := 333) (ls' := [(0, mR 50 0 0), (1, mR 2 0 0), (2, mR 3 0 0), (3, mI v3)]) (r := [mI q35.1]) rfl (Or.inl rfl)).trans ?_
      refine mi_bdc fun q37 => ?_
      refine (mx_if (c := q35.1 = q37.1) (p1 := 720) (l1 := [(0, mR 50 0 0), (1, mR 2 0 0), (2, mR 3 0 0), (3, mI v3)]) (s1 := []) (M1 := q37.2) (p2 := 336) (l2 := [(0, mR 50 0 0), (1, mR 2 0 0), (2, mR 3 0 0), (3, mI v3)]) (s2 := []) (M2 := q37.2) rfl).trans ?_
      refine mi_itc ?_ ?_
      · refine (mx_steps 2 (pc' := 18) (ls' := [(0, mR 50 0 0), (1, mR 2 0 0), (2, mR 3 0 0), (3, mI (v3 + 4))]) (st' := []) (M' := q37.2) rfl).trans ?_
        rfl
      · refine (mx_steps 1 (pc' := 337) (ls' := [(0, mR 50 0 0), (1, mR 2 0 0), (2, mR 3 0 0), (3, mI v3)]) (st' := [mI 0]) (M' := q37.2) rfl).trans ?_
        exact mx_ret rfl rfl
    refine mi_swc (F := fun tg => mi_ex mi_pI 143 tg (mi_jmp 143 tg [(0, mR 50 0 0), (1, mR 2 0 0), (2, mR 3 0 0), (3, mI v3)]) [] M) (k := 6) rfl ?_ ?_
    · show mi_ex mi_pI 143 338 [(0, mR 50 0 0), (1, mR 2 0 0), (2, mR 3 0 0), (3, mI v3)] [] M = _
      refine (mx_steps 5 (pc' := 343) (ls' := [(0, mR 50 0 0), (1, mR 2 0 0), (2, mR 3 0 0), (3, mI v3)]) (st' := [mI (v3 + 1), mR 50 0 0, mR 2 0 0]) (M' := M) rfl).trans ?_
      refine (mx_ix (i := v3 + 1) (n := (M.1 51 0 0).toNatClampNeg) (pc' := 344) (ls' := [(0, mR 50 0 0), (1, mR 2 0 0), (2, mR 3 0 0), (3, mI v3)]) (sf := fun k38 => [mI (M.1 50 0 k38), mR 2 0 0]) (Mf := fun k38 => M) rfl).trans ?_
      refine mi_bdc fun k38 => ?_
      refine (mx_callI (z := 45) (as := [mR 2 0 0, mI (M.1 50 0 k38)]) (pc' := 347) (ls' := [(0, mR 50 0 0), (1, mR 2 0 0), (2, mR 3 0 0), (3, mI v3)]) (r := []) rfl (Or.inl rfl)).trans ?_
      refine mi_bdc fun q39 => ?_
      refine (mx_steps 5 (pc' := 352) (ls' := [(0, mR 50 0 0), (1, mR 2 0 0), (2, mR 3 0 0), (3, mI v3)]) (st' := [mI (v3 + 1), mR 50 0 0, mR 3 0 0, mI q39.1]) (M' := q39.2) rfl).trans ?_
      refine (mx_ix (i := v3 + 1) (n := (q39.2.1 51 0 0).toNatClampNeg) (pc' := 353) (ls' := [(0, mR 50 0 0), (1, mR 2 0 0), (2, mR 3 0 0), (3, mI v3)]) (sf := fun k40 => [mI (q39.2.1 50 0 k40), mR 3 0 0, mI q39.1]) (Mf := fun k40 => q39.2) rfl).trans ?_
      refine mi_bdc fun k40 => ?_
      refine (mx_callI (z := 109) (as := [mR 3 0 0, mI (q39.2.1 50 0 k40)]) (pc' := 356) (ls' := [(0, mR 50 0 0), (1, mR 2 0 0), (2, mR 3 0 0), (3, mI v3)]) (r := [mI q39.1]) rfl (Or.inl rfl)).trans ?_
      refine mi_bdc fun q41 => ?_
      refine (mx_if (c := q39.1 = q41.1) (p1 := 720) (l1 := [(0, mR 50 0 0), (1, mR 2 0 0), (2, mR 3 0 0), (3, mI v3)]) (s1 := []) (M1 := q41.2) (p2 := 359) (l2 := [(0, mR 50 0 0), (1, mR 2 0 0), (2, mR 3 0 0), (3, mI v3)]) (s2 := []) (M2 := q41.2) rfl).trans ?_
      refine mi_itc ?_ ?_
      · refine (mx_steps 2 (pc' := 18) (ls' := [(0, mR 50 0 0), (1, mR 2 0 0), (2, mR 3 0 0), (3, mI (v3 + 4))]) (st' := []) (M' := q41.2) rfl).trans ?_
        rfl
      · refine (mx_steps 1 (pc' := 360) (ls' := [(0, mR 50 0 0), (1, mR 2 0 0), (2, mR 3 0 0), (3, mI v3)]) (st' := [mI 0]) (M' := q41.2) rfl).trans ?_
        exact mx_ret rfl rfl
    refine mi_swc (F := fun tg => mi_ex mi_pI 143 tg (mi_jmp 143 tg [(0, mR 50 0 0), (1, mR 2 0 0), (2, mR 3 0 0), (3, mI v3)]) [] M) (k := 7) rfl ?_ ?_
    · show mi_ex mi_pI 143 361 [(0, mR 50 0 0), (1, mR 2 0 0), (2, mR 3 0 0), (3, mI v3)] [] M = _
      refine (mx_steps 5 (pc' := 366) (ls' := [(0, mR 50 0 0), (1, mR 2 0 0), (2, mR 3 0 0), (3, mI v3)]) (st' := [mI (v3 + 1), mR 50 0 0, mR 2 0 0]) (M' := M) rfl).trans ?_
      refine (mx_ix (i := v3 + 1) (n := (M.1 51 0 0).toNatClampNeg) (pc' := 367) (ls' := [(0, mR 50 0 0), (1, mR 2 0 0), (2, mR 3 0 0), (3, mI v3)]) (sf := fun k42 => [mI (M.1 50 0 k42), mR 2 0 0]) (Mf := fun k42 => M) rfl).trans ?_
      refine mi_bdc fun k42 => ?_
      refine (mx_callI (z := 46) (as := [mR 2 0 0, mI (M.1 50 0 k42)]) (pc' := 370) (ls' := [(0, mR 50 0 0), (1, mR 2 0 0), (2, mR 3 0 0), (3, mI v3)]) (r := []) rfl (Or.inl rfl)).trans ?_
      refine mi_bdc fun q43 => ?_
      refine (mx_steps 5 (pc' := 375) (ls' := [(0, mR 50 0 0), (1, mR 2 0 0), (2, mR 3 0 0), (3, mI v3)]) (st' := [mI (v3 + 1), mR 50 0 0, mR 3 0 0, mI q43.1]) (M' := q43.2) rfl).trans ?_
      refine (mx_ix (i := v3 + 1) (n := (q43.2.1 51 0 0).toNatClampNeg) (pc' := 376) (ls' := [(0, mR 50 0 0), (1, mR 2 0 0), (2, mR 3 0 0), (3, mI v3)]) (sf := fun k44 => [mI (q43.2.1 50 0 k44), mR 3 0 0, mI q43.1]) (Mf := fun k44 => q43.2) rfl).trans ?_
      refine mi_bdc fun k44 => ?_
      refine (mx_callI (z := 110) (as := [mR 3 0 0, mI (q43.2.1 50 0 k44)]) (pc' := 379) (ls' := [(0, mR 50 0 0), (1, mR 2 0 0), (2, mR 3 0 0), (3, mI v3)]) (r := [mI q43.1]) rfl (Or.inl rfl)).trans ?_
      refine mi_bdc fun q45 => ?_
      refine (mx_if (c := q43.1 = q45.1) (p1 := 720) (l1 := [(0, mR 50 0 0), (1, mR 2 0 0), (2, mR 3 0 0), (3, mI v3)]) (s1 := []) (M1 := q45.2) (p2 := 382) (l2 := [(0, mR 50 0 0), (1, mR 2 0 0), (2, mR 3 0 0), (3, mI v3)]) (s2 := []) (M2 := q45.2) rfl).trans ?_
      refine mi_itc ?_ ?_
      · refine (mx_steps 2 (pc' := 18) (ls' := [(0, mR 50 0 0), (1, mR 2 0 0), (2, mR 3 0 0), (3, mI (v3 + 4))]) (st' := []) (M' := q45.2) rfl).trans ?_
        rfl
      · refine (mx_steps 1 (pc' := 383) (ls' := [(0, mR 50 0 0), (1, mR 2 0 0), (2, mR 3 0 0), (3, mI v3)]) (st' := [mI 0]) (M' := q45.2) rfl).trans ?_
        exact mx_ret rfl rfl
    refine mi_swc (F := fun tg => mi_ex mi_pI 143 tg (mi_jmp 143 tg [(0, mR 50 0 0), (1, mR 2 0 0), (2, mR 3 0 0), (3, mI v3)]) [] M) (k := 8) rfl ?_ ?_
    · show mi_ex mi_pI 143 384 [(0, mR 50 0 0), (1, mR 2 0 0), (2, mR 3 0 0), (3, mI v3)] [] M = _
      refine (mx_steps 5 (pc' := 389) (ls' := [(0, mR 50 0 0), (1, mR 2 0 0), (2, mR 3 0 0), (3, mI v3)]) (st' := [mI (v3 + 1), mR 50 0 0, mR 2 0 0]) (M' := M) rfl).trans ?_
      refine (mx_ix (i := v3 + 1) (n := (M.1 51 0 0).toNatClampNeg) (pc' := 390) (ls' := [(0, mR 50 0 0), (1, mR 2 0 0), (2, mR 3 0 0), (3, mI v3)]) (sf := fun k46 => [mI (M.1 50 0 k46), mR 2 0 0]) (Mf := fun k46 => M) rfl).trans ?_
      refine mi_bdc fun k46 => ?_
      refine (mx_steps 4 (pc' := 394) (ls' := [(0, mR 50 0 0), (1, mR 2 0 0), (2, mR 3 0 0), (3, mI v3)]) (st' := [mI (v3 + 2), mR 50 0 0, mI (M.1 50 0 k46), mR 2 0 0]) (M' := M) rfl).trans ?_
      refine (mx_ix (i := v3 + 2) (n := (M.1 51 0 0).toNatClampNeg) (pc' := 395) (ls' := [(0, mR 50 0 0), (1, mR 2 0 0), (2, mR 3 0 0), (3, mI v3)]) (sf := fun k47 => [mI (M.1 50 0 k47), mI (M.1 50 0 k46), mR 2 0 0]) (Mf := fun k47 => M) rfl).trans ?_
      refine mi_bdc fun k47 => ?_
      refine (mx_callI (z := 47) (as := [mR 2 0 0, mI (M.1 50 0 k46), mI (M.1 50 0 k47)]) (pc' := 398) (ls' := [(0, mR 50 0 0), (1, mR 2 0 0), (2, mR 3 0 0), (3, mI v3)]) (r := []) rfl (Or.inl rfl)).trans ?_
      refine mi_bdc fun q48 => ?_
      refine (mx_steps 5 (pc' := 403) (ls' := [(0, mR 50 0 0), (1, mR 2 0 0), (2, mR 3 0 0), (3, mI v3)]) (st' := [mI (v3 + 1), mR 50 0 0, mR 3 0 0, mI q48.1]) (M' := q48.2) rfl).trans ?_
      refine (mx_ix (i := v3 + 1) (n := (q48.2.1 51 0 0).toNatClampNeg) (pc' := 404) (ls' := [(0, mR 50 0 0), (1, mR 2 0 0), (2, mR 3 0 0), (3, mI v3)]) (sf := fun k49 => [mI (q48.2.1 50 0 k49), mR 3 0 0, mI q48.1]) (Mf := fun k49 => q48.2) rfl).trans ?_
      refine mi_bdc fun k49 => ?_
      refine (mx_steps 4 (pc' := 408) (ls' := [(0, mR 50 0 0), (1, mR 2 0 0), (2, mR 3 0 0), (3, mI v3)]) (st' := [mI (v3 + 2), mR 50 0 0, mI (q48.2.1 50 0 k49), mR 3 0 0, mI q48.1]) (M' := q48.2) rfl).trans ?_
      refine (mx_ix (i := v3 + 2) (n := (q48.2.1 51 0 0).toNatClampNeg) (pc' := 409) (ls' := [(0, mR 50 0 0), (1, mR 2 0 0), (2, mR 3 0 0), (3, mI v3)]) (sf := fun k50 => [mI (q48.2.1 50 0 k50), mI (q48.2.1 50 0 k49), mR 3 0 0, mI q48.1]) (Mf := fun k50 => q48.2) rfl).trans ?_
      refine mi_bdc fun k50 => ?_
      refine (mx_callI (z := 111) (as := [mR 3 0 0, mI (q48.2.1 50 0 k49), mI (q48.2.1 50 0 k50)]) (pc' := 412) (ls' := [(0, mR 50 0 0), (1, mR 2 0 0), (2, mR 3 0 0), (3, mI v3)]) (r := [mI q48.1]) rfl (Or.inl rfl)).trans ?_
      refine mi_bdc fun q51 => ?_
      refine (mx_if (c := q48.1 = q51.1) (p1 := 720) (l1 := [(0, mR 50 0 0), (1, mR 2 0 0), (2, mR 3 0 0), (3, mI v3)]) (s1 := []) (M1 := q51.2) (p2 := 415) (l2 := [(0, mR 50 0 0), (1, mR 2 0 0), (2, mR 3 0 0), (3, mI v3)]) (s2 := []) (M2 := q51.2) rfl).trans ?_
      refine mi_itc ?_ ?_
      · refine (mx_steps 2 (pc' := 18) (ls' := [(0, mR 50 0 0), (1, mR 2 0 0), (2, mR 3 0 0), (3, mI (v3 + 4))]) (st' := []) (M' := q51.2) rfl).trans ?_
        rfl
      · refine (mx_steps 1 (pc' := 416) (ls' := [(0, mR 50 0 0), (1, mR 2 0 0), (2, mR 3 0 0), (3, mI v3)]) (st' := [mI 0]) (M' := q51.2) rfl).trans ?_
        exact mx_ret rfl rfl
    refine mi_swc (F := fun tg => mi_ex mi_pI 143 tg (mi_jmp 143 tg [(0, mR 50 0 0), (1, mR 2 0 0), (2, mR 3 0 0), (3, mI v3)]) [] M) (k := 9) rfl ?_ ?_
    · show mi_ex mi_pI 143 417 [(0, mR 50 0 0), (1, mR 2 0 0), (2, mR 3 0 0), (3, mI v3)] [] M = _
      refine (mx_steps 5 (pc' := 422) (ls' := [(0, mR 50 0 0), (1, mR 2 0 0), (2, mR 3 0 0), (3, mI v3)]) (st' := [mI (v3 + 1), mR 50 0 0, mR 2 0 0]) (M' := M) rfl).trans ?_
      refine (mx_ix (i := v3 + 1) (n := (M.1 51 0 0).toNatClampNeg) (pc' := 423) (ls' := [(0, mR 50 0 0), (1, mR 2 0 0), (2, mR 3 0 0), (3, mI v3)]) (sf := fun k52 => [mI (M.1 50 0 k52), mR 2 0 0]) (Mf := fun k52 => M) rfl).trans ?_
      refine mi_bdc fun k52 => ?_
      refine (mx_steps 4 (pc' := 427) (ls' := [(0, mR 50 0 0), (1, mR 2 0 0), (2, mR 3 0 0), (3, mI v3)]) (st' := [mI (v3 + 2), mR 50 0 0, mI (M.1 50 0 k52), mR 2 0 0]) (M' := M) rfl).trans ?_
      refine (mx_ix (i := v3 + 2) (n := (M.1 51 0 0).toNatClampNeg) (pc' := 428) (ls' := [(0, mR 50 0 0), (1, mR 2 0 0), (2, mR 3 0 0), (3, mI v3)]) (sf := fun k53 => [mI (M.1 50 0 k53), mI (M.1 50 0 k52), mR 2 0 0]) (Mf := fun k53 => M) rfl).trans ?_
      refine mi_bdc fun k53 => ?_
      refine (mx_callI (z := 48) (as := [mR 2 0 0, mI (M.1 50 0 k52), mI (M.1 50 0 k53)]) (pc' := 431) (ls' := [(0, mR 50 0 0), (1, mR 2 0 0), (2, mR 3 0 0), (3, mI v3)]) (r := []) rfl (Or.inl rfl)).trans ?_
      refine mi_bdc fun q54 => ?_
      refine (mx_steps 5 (pc' := 436) (ls' := [(0, mR 50 0 0), (1, mR 2 0 0), (2, mR 3 0 0), (3, mI v3)]) (st' := [mI (v3 + 1), mR 50 0 0, mR 3 0 0, mI q54.1]) (M' := q54.2) rfl).trans ?_
      refine (mx_ix (i := v3 + 1) (n := (q54.2.1 51 0 0).toNatClampNeg) (pc' := 437) (ls' := [(0, mR 50 0 0), (1, mR 2 0 0), (2, mR 3 0 0), (3, mI v3)]) (sf := fun k55 => [mI (q54.2.1 50 0 k55), mR 3 0 0, mI q54.1]) (Mf := fun k55 => q54.2) rfl).trans ?_
      refine mi_bdc fun k55 => ?_
      refine (mx_steps 4 (pc' := 441) (ls' := [(0, mR 50 0 0), (1, mR 2 0 0), (2, mR 3 0 0), (3, mI v3)]) (st' := [mI (v3 + 2), mR 50 0 0, mI (q54.2.1 50 0 k55), mR 3 0 0, mI q54.1]) (M' := q54.2) rfl).trans ?_
      refine (mx_ix (i := v3 + 2) (n := (q54.2.1 51 0 0).toNatClampNeg) (pc' := 442) (ls' := [(0, mR 50 0 0), (1, mR 2 0 0), (2, mR 3 0 0), (3, mI v3)]) (sf := fun k56 => [mI (q54.2.1 50 0 k56), mI (q54.2.1 50 0 k55), mR 3 0 0, mI q54.1]) (Mf := fun k56 => q54.2) rfl).trans ?_
      refine mi_bdc fun k56 => ?_
      refine (mx_callI (z := 113) (as := [mR 3 0 0, mI (q54.2.1 50 0 k55), mI (q54.2.1 50 0 k56)]) (pc' := 445) (ls' := [(0, mR 50 0 0), (1, mR 2 0 0), (2, mR 3 0 0), (3, mI v3)]) (r := [mI q54.1]) rfl (Or.inl rfl)).trans ?_
      refine mi_bdc fun q57 => ?_
      refine (mx_if (c := q54.1 = q57.1) (p1 := 720) (l1 := [(0, mR 50 0 0), (1, mR 2 0 0), (2, mR 3 0 0), (3, mI v3)]) (s1 := []) (M1 := q57.2) (p2 := 448) (l2 := [(0, mR 50 0 0), (1, mR 2 0 0), (2, mR 3 0 0), (3, mI v3)]) (s2 := []) (M2 := q57.2) rfl).trans ?_
      refine mi_itc ?_ ?_
      · refine (mx_steps 2 (pc' := 18) (ls' := [(0, mR 50 0 0), (1, mR 2 0 0), (2, mR 3 0 0), (3, mI (v3 + 4))]) (st' := []) (M' := q57.2) rfl).trans ?_
        rfl
      · refine (mx_steps 1 (pc' := 449) (ls' := [(0, mR 50 0 0), (1, mR 2 0 0), (2, mR 3 0 0), (3, mI v3)]) (st' := [mI 0]) (M' := q57.2) rfl).trans ?_
        exact mx_ret rfl rfl
    refine mi_swc (F := fun tg => mi_ex mi_pI 143 tg (mi_jmp 143 tg [(0, mR 50 0 0), (1, mR 2 0 0), (2, mR 3 0 0), (3, mI v3)]) [] M) (k := 10) rfl ?_ ?_
    · show mi_ex mi_pI 143 450 [(0, mR 50 0 0), (1, mR 2 0 0), (2, mR 3 0 0), (3, mI v3)] [] M = _
      refine (mx_steps 5 (pc' := 455) (ls' := [(0, mR 50 0 0), (1, mR 2 0 0), (2, mR 3 0 0), (3, mI v3)]) (st' := [mI (v3 + 1), mR 50 0 0, mR 2 0 0]) (M' := M) rfl).trans ?_
      refine (mx_ix (i := v3 + 1) (n := (M.1 51 0 0).toNatClampNeg) (pc' := 456) (ls' := [(0, mR 50 0 0), (1, mR 2 0 0), (2, mR 3 0 0), (3, mI v3)]) (sf := fun k58 => [mI (M.1 50 0 k58), mR 2 0 0]) (Mf := fun k58 => M) rfl).trans ?_
      refine mi_bdc fun k58 => ?_
      refine (mx_callI (z := 49) (as := [mR 2 0 0, mI (M.1 50 0 k58)]) (pc' := 459) (ls' := [(0, mR 50 0 0), (1, mR 2 0 0), (2, mR 3 0 0), (3, mI v3)]) (r := []) rfl (Or.inl rfl)).trans ?_
      refine mi_bdc fun q59 => ?_
      refine (mx_steps 5 (pc' := 464) (ls' := [(0, mR 50 0 0), (1, mR 2 0 0), (2, mR 3 0 0), (3, mI v3)]) (st' := [mI (v3 + 1), mR 50 0 0, mR 3 0 0, mI q59.1]) (M' := q59.2) rfl).trans ?_
      refine (mx_ix (i := v3 + 1) (n := (q59.2.1 51 0 0).toNatClampNeg) (pc' := 465) (ls' := [(0, mR 50 0 0), (1, mR 2 0 0), (2, mR 3 0 0), (3, mI v3)]) (sf := fun k60 => [mI (q59.2.1 50 0 k60), mR 3 0 0, mI q59.1]) (Mf := fun k60 => q59.2) rfl).trans ?_
      refine mi_bdc fun k60 => ?_
      refine (mx_callI (z := 114) (as := [mR 3 0 0, mI (q59.2.1 50 0 k60)]) (pc' := 468) (ls' := [(0, mR 50 0 0), (1, mR 2 0 0), (2, mR 3 0 0), (3, mI v3)]) (r := [mI q59.1]) rfl (Or.inl rfl)).trans ?_
      refine mi_bdc fun q61 => ?_
      refine (mx_if (c := q59.1 = q61.1) (p1 := 720) (l1 := [(0, mR 50 0 0), (1, mR 2 0 0), (2, mR 3 0 0), (3, mI v3)]) (s1 := []) (M1 := q61.2) (p2 := 471) (l2 := [(0, mR 50 0 0), (1, mR 2 0 0), (2, mR 3 0 0), (3, mI v3)]) (s2 := []) (M2 := q61.2) rfl).trans ?_
      refine mi_itc ?_ ?_
      · refine (mx_steps 2 (pc' := 18) (ls' := [(0, mR 50 0 0), (1, mR 2 0 0), (2, mR 3 0 0), (3, mI (v3 + 4))]) (st' := []) (M' := q61.2) rfl).trans ?_
        rfl
      · refine (mx_steps 1 (pc' := 472) (ls' := [(0, mR 50 0 0), (1, mR 2 0 0), (2, mR 3 0 0), (3, mI v3)]) (st' := [mI 0]) (M' := q61.2) rfl).trans ?_
        exact mx_ret rfl rfl
    refine mi_swc (F := fun tg => mi_ex mi_pI 143 tg (mi_jmp 143 tg [(0, mR 50 0 0), (1, mR 2 0 0), (2, mR 3 0 0), (3, mI v3)]) [] M) (k := 11) rfl ?_ ?_
    · show mi_ex mi_pI 143 473 [(0, mR 50 0 0), (1, mR 2 0 0), (2, mR 3 0 0), (3, mI v3)] [] M = _
      refine (mx_steps 5 (pc' := 478) (ls' := [(0, mR 50 0 0), (1, mR 2 0 0), (2, mR 3 0 0), (3, mI v3)]) (st' := [mI (v3 + 1), mR 50 0 0, mR 2 0 0]) (M' := M) rfl).trans ?_
      refine (mx_ix (i := v3 + 1) (n := (M.1 51 0 0).toNatClampNeg) (pc' := 479) (ls' := [(0, mR 50 0 0), (1, mR 2 0 0), (2, mR 3 0 0), (3, mI v3)]) (sf := fun k62 => [mI (M.1 50 0 k62), mR 2 0 0]) (Mf := fun k62 => M) rfl).trans ?_
      refine mi_bdc fun k62 => ?_
      refine (mx_steps 4 (pc' := 483) (ls' := [(0, mR 50 0 0), (1, mR 2 0 0), (2, mR 3 0 0), (3, mI v3)]) (st' := [mI (v3 + 2), mR 50 0 0, mI (M.1 50 0 k62), mR 2 0 0]) (M' := M) rfl).trans ?_
      refine (mx_ix (i := v3 + 2) (n := (M.1 51 0 0).toNatClampNeg) (pc' := 484) (ls' := [(0, mR 50 0 0), (1, mR 2 0 0), (2, mR 3 0 0), (3, mI v3)]) (sf := fun k63 => [mI (M.1 50 0 k63), mI (M.1 50 0 k62), mR 2 0 0]) (Mf := fun k63 => M) rfl).trans ?_
      refine mi_bdc fun k63 => ?_
      refine (mx_callI (z := 50) (as := [mR 2 0 0, mI (M.1 50 0 k62), mI (M.1 50 0 k63)]) (pc' := 487) (ls' := [(0, mR 50 0 0), (1, mR 2 0 0), (2, mR 3 0 0), (3, mI v3)]) (r := []) rfl (Or.inl rfl)).trans ?_
      refine mi_bdc fun q64 => ?_
      refine (mx_steps 5 (pc' := 492) (ls' := [(0, mR 50 0 0), (1, mR 2 0 0), (2, mR 3 0 0), (3, mI v3)]) (st' := [mI (v3 + 1), mR 50 0 0, mR 3 0 0, mI q64.1]) (M' := q64.2) rfl).trans ?_
      refine (mx_ix (i := v3 + 1) (n := (q64.2.1 51 0 0).toNatClampNeg) (pc' := 493) (ls' := [(0, mR 50 0 0), (1, mR 2 0 0), (2, mR 3 0 0), (3, mI v3)]) (sf := fun k65 => [mI (q64.2.1 50 0 k65), mR 3 0 0, mI q64.1]) (Mf := fun k65 => q64.2) rfl).trans ?_
      refine mi_bdc fun k65 => ?_
      refine (mx_steps 4 (pc' := 497) (ls' := [(0, mR 50 0 0), (1, mR 2 0 0), (2, mR 3 0 0), (3, mI v3)]) (st' := [mI (v3 + 2), mR 50 0 0, mI (q64.2.1 50 0 k65), mR 3 0 0, mI q64.1]) (M' := q64.2) rfl).trans ?_
      refine (mx_ix (i := v3 + 2) (n := (q64.2.1 51 0 0).toNatClampNeg) (pc' := 498) (ls' := [(0, mR 50 0 0), (1, mR 2 0 0), (2, mR 3 0 0), (3, mI v3)]) (sf := fun k66 => [mI (q64.2.1 50 0 k66), mI (q64.2.1 50 0 k65), mR 3 0 0, mI q64.1]) (Mf := fun k66 => q64.2) rfl).trans ?_
      refine mi_bdc fun k66 => ?_
      refine (mx_callI (z := 116) (as := [mR 3 0 0, mI (q64.2.1 50 0 k65), mI (q64.2.1 50 0 k66)]) (pc' := 501) (ls' := [(0, mR 50 0 0), (1, mR 2 0 0), (2, mR 3 0 0), (3, mI v3)]) (r := [mI q64.1]) rfl (Or.inl rfl)).trans ?_
      refine mi_bdc fun q67 => ?_
      refine (mx_if (c := q64.1 = q67.1) (p1 := 720) (l1 := [(0, mR 50 0 0), (1, mR 2 0 0), (2, mR 3 0 0), (3, mI v3)]) (s1 := []) (M1 := q67.2) (p2 := 504) (l2 := [(0, mR 50 0 0), (1, mR 2 0 0), (2, mR 3 0 0), (3, mI v3)]) (s2 := []) (M2 := q67.2) rfl).trans ?_
      refine mi_itc ?_ ?_
      · refine (mx_steps 2 (pc' := 18) (ls' := [(0, mR 50 0 0), (1, mR 2 0 0), (2, mR 3 0 0), (3, mI (v3 + 4))]) (st' := []) (M' := q67.2) rfl).trans ?_
        rfl
      · refine (mx_steps 1 (pc' := 505) (ls' := [(0, mR 50 0 0), (1, mR 2 0 0), (2, mR 3 0 0), (3, mI v3)]) (st' := [mI 0]) (M' := q67.2) rfl).trans ?_
        exact mx_ret rfl rfl
    refine mi_swc (F := fun tg => mi_ex mi_pI 143 tg (mi_jmp 143 tg [(0, mR 50 0 0), (1, mR 2 0 0), (2, mR 3 0 0), (3, mI v3)]) [] M) (k := 12) rfl ?_ ?_
    · show mi_ex mi_pI 143 506 [(0, mR 50 0 0), (1, mR 2 0 0), (2, mR 3 0 0), (3, mI v3)] [] M = _
      refine (mx_steps 5 (pc' := 511) (ls' := [(0, mR 50 0 0), (1, mR 2 0 0), (2, mR 3 0 0), (3, mI v3)]) (st' := [mI (v3 + 1), mR 50 0 0, mR 2 0 0]) (M' := M) rfl).trans ?_
      refine (mx_ix (i := v3 + 1) (n := (M.1 51 0 0).toNatClampNeg) (pc' := 512) (ls' := [(0, mR 50 0 0), (1, mR 2 0 0), (2, mR 3 0 0), (3, mI v3)]) (sf := fun k68 => [mI (M.1 50 0 k68), mR 2 0 0]) (Mf := fun k68 => M) rfl).trans ?_
      refine mi_bdc fun k68 => ?_
      refine (mx_callI (z := 51) (as := [mR 2 0 0, mI (M.1 50 0 k68)]) (pc' := 515) (ls' := [(0, mR 50 0 0), (1, mR 2 0 0), (2, mR 3 0 0), (3, mI v3)]) (r := []) rfl (Or.inl rfl)).trans ?_
      refine mi_bdc fun q69 => ?_
      refine (mx_steps 5 (pc' := 520) (ls' := [(0, mR 50 0 0), (1, mR 2 0 0), (2, mR 3 0 0), (3, mI v3)]) (st' := [mI (v3 + 1), mR 50 0 0, mR 3 0 0, mI q69.1]) (M' := q69.2) rfl).trans ?_
      refine (mx_ix (i := v3 + 1) (n := (q69.2.1 51 0 0).toNatClampNeg) (pc' := 521) (ls' := [(0, mR 50 0 0), (1, mR 2 0 0), (2, mR 3 0 0), (3, mI v3)]) (sf := fun k70 => [mI (q69.2.1 50 0 k70), mR 3 0 0, mI q69.1]) (Mf := fun k70 => q69.2) rfl).trans ?_
      refine mi_bdc fun k70 => ?_
      refine (mx_callI (z := 118) (as := [mR 3 0 0, mI (q69.2.1 50 0 k70)]) (pc' := 524) (ls' := [(0, mR 50 0 0), (1, mR 2 0 0), (2, mR 3 0 0), (3, mI v3)]) (r := [mI q69.1]) rfl (Or.inl rfl)).trans ?_
      refine mi_bdc fun q71 => ?_
      refine (mx_if (c := q69.1 = q71.1) (p1 := 720) (l1 := [(0, mR 50 0 0), (1, mR 2 0 0), (2, mR 3 0 0), (3, mI v3)]) (s1 := []) (M1 := q71.2) (p2 := 527) (l2 := [(0, mR 50 0 0), (1, mR 2 0 0), (2, mR 3 0 0), (3, mI v3)]) (s2 := []) (M2 := q71.2) rfl).trans ?_
      refine mi_itc ?_ ?_
      · refine (mx_steps 2 (pc' := 18) (ls' := [(0, mR 50 0 0), (1, mR 2 0 0), (2, mR 3 0 0), (3, mI (v3 + 4))]) (st' := []) (M' := q71.2) rfl).trans ?_
        rfl
      · refine (mx_steps 1 (pc' := 528) (ls' := [(0, mR 50 0 0), (1, mR 2 0 0), (2, mR 3 0 0), (3, mI v3)]) (st' := [mI 0]) (M' := q71.2) rfl).trans ?_
        exact mx_ret rfl rfl
    refine mi_swc (F := fun tg => mi_ex mi_pI 143 tg (mi_jmp 143 tg [(0, mR 50 0 0), (1, mR 2 0 0), (2, mR 3 0 0), (3, mI v3)]) [] M) (k := 13) rfl ?_ ?_
    · show mi_ex mi_pI 143 529 [(0, mR 50 0 0), (1, mR 2 0 0), (2, mR 3 0 0), (3, mI v3)] [] M = _
      refine (mx_steps 1 (pc' := 530) (ls' := [(0, mR 50 0 0), (1, mR 2 0 0), (2, mR 3 0 0), (3, mI v3)]) (st' := [mR 2 0 0]) (M' := M) rfl).trans ?_
      refine (mx_callI (z := 52) (as := [mR 2 0 0]) (pc' := 533) (ls' := [(0, mR 50 0 0), (1, mR 2 0 0), (2, mR 3 0 0), (3, mI v3)]) (r := []) rfl (Or.inl rfl)).trans ?_
      refine mi_bdc fun q72 => ?_
      refine (mx_steps 1 (pc' := 534) (ls' := [(0, mR 50 0 0), (1, mR 2 0 0), (2, mR 3 0 0), (3, mI v3)]) (st' := [mR 3 0 0, mI q72.1]) (M' := q72.2) rfl).trans ?_
      refine (mx_callI (z := 122) (as := [mR 3 0 0]) (pc' := 537) (ls' := [(0, mR 50 0 0), (1, mR 2 0 0), (2, mR 3 0 0), (3, mI v3)]) (r := [mI q72.1]) rfl (Or.inl rfl)).trans ?_
      refine mi_bdc fun q73 => ?_
      refine (mx_if (c := q72.1 = q73.1) (p1 := 720) (l1 := [(0, mR 50 0 0), (1, mR 2 0 0), (2, mR 3 0 0), (3, mI v3)]) (s1 := []) (M1 := q73.2) (p2 := 540) (l2 := [(0, mR 50 0 0), (1, mR 2 0 0), (2, mR 3 0 0), (3, mI v3)]) (s2 := []) (M2 := q73.2) rfl).trans ?_
      refine mi_itc ?_ ?_
      · refine (mx_steps 2 (pc' := 18) (ls' := [(0, mR 50 0 0), (1, mR 2 0 0), (2, mR 3 0 0), (3, mI (v3 + 4))]) (st' := []) (M' := q73.2) rfl).trans ?_
        rfl
      · refine (mx_steps 1 (pc' := 541) (ls' := [(0, mR 50 0 0), (1, mR 2 0 0), (2, mR 3 0 0), (3, mI v3)]) (st' := [mI 0]) (M' := q73.2) rfl).trans ?_
        exact mx_ret rfl rfl
    refine mi_swc (F := fun tg => mi_ex mi_pI 143 tg (mi_jmp 143 tg [(0, mR 50 0 0), (1, mR 2 0 0), (2, mR 3 0 0), (3, mI v3)]) [] M) (k := 14) rfl ?_ ?_
    · show mi_ex mi_pI 143 542 [(0, mR 50 0 0), (1, mR 2 0 0), (2, mR 3 0 0), (3, mI v3)] [] M = _
      refine (mx_steps 5 (pc' := 547) (ls' := [(0, mR 50 0 0), (1, mR 2 0 0), (2, mR 3 0 0), (3, mI v3)]) (st' := [mI (v3 + 1), mR 50 0 0, mR 2 0 0]) (M' := M) rfl).trans ?_
      refine (mx_ix (i := v3 + 1) (n := (M.1 51 0 0).toNatClampNeg) (pc' := 548) (ls' := [(0, mR 50 0 0), (1, mR 2 0 0), (2, mR 3 0 0), (3, mI v3)]) (sf := fun k74 => [mI (M.1 50 0 k74), mR 2 0 0]) (Mf := fun k74 => M) rfl).trans ?_
      refine mi_bdc fun k74 => ?_
      refine (mx_steps 4 (pc' := 552) (ls' := [(0, mR 50 0 0), (1, mR 2 0 0), (2, mR 3 0 0), (3, mI v3)]) (st' := [mI (v3 + 2), mR 50 0 0, mI (M.1 50 0 k74), mR 2 0 0]) (M' := M) rfl).trans ?_
      refine (mx_ix (i := v3 + 2) (n := (M.1 51 0 0).toNatClampNeg) (pc' := 553) (ls' := [(0, mR 50 0 0), (1, mR 2 0 0), (2, mR 3 0 0), (3, mI v3)]) (sf := fun k75 => [mI (M.1 50 0 k75), mI (M.1 50 0 k74), mR 2 0 0]) (Mf := fun k75 => M) rfl).trans ?_
      refine mi_bdc fun k75 => ?_
      refine (mx_callI (z := 53) (as := [mR 2 0 0, mI (M.1 50 0 k74), mI (M.1 50 0 k75)]) (pc' := 556) (ls' := [(0, mR 50 0 0), (1, mR 2 0 0), (2, mR 3 0 0), (3, mI v3)]) (r := []) rfl (Or.inl rfl)).trans ?_
      refine mi_bdc fun q76 => ?_
      refine (mx_steps 5 (pc' := 561) (ls' := [(0, mR 50 0 0), (1, mR 2 0 0), (2, mR 3 0 0), (3, mI v3)]) (st' := [mI (v3 + 1), mR 50 0 0, mR 3 0 0, mI q76.1]) (M' := q76.2) rfl).trans ?_
      refine (mx_ix (i := v3 + 1) (n := (q76.2.1 51 0 0).toNatClampNeg) (pc' := 562) (ls' := [(0, mR 50 0 0), (1, mR 2 0 0), (2, mR 3 0 0), (3, mI v3)]) (sf := fun k77 => [mI (q76.2.1 50 0 k77), mR 3 0 0, mI q76.1]) (Mf := fun k77 => q76.2) rfl).trans ?_
      refine mi_bdc fun k77 => ?_
      refine (mx_steps 4 (pc' := 566) (ls' := [(0, mR 50 0 0), (1, mR 2 0 0), (2, mR 3 0 0), (3, mI v3)]) (st' := [mI (v3 + 2), mR 50 0 0, mI (q76.2.1 50 0 k77), mR 3 0 0, mI q76.1]) (M' := q76.2) rfl).trans ?_
      refine (mx_ix (i := v3 + 2) (n := (q76.2.1 51 0 0).toNatClampNeg) (pc' := 567) (ls' := [(0, mR 50 0 0), (1, mR 2 0 0), (2, mR 3 0 0), (3, mI v3)]) (sf := fun k78 => [mI (q76.2.1 50 0 k78), mI (q76.2.1 50 0 k77), mR 3 0 0, mI q76.1]) (Mf := fun k78 => q76.2) rfl).trans ?_
      refine mi_bdc fun k78 => ?_
      refine (mx_callI (z := 123) (as := [mR 3 0 0, mI (q76.2.1 50 0 k77), mI (q76.2.1 50 0 k78)]) (pc' := 570) (ls' := [(0, mR 50 0 0), (1, mR 2 0 0), (2, mR 3 0 0), (3, mI v3)]) (r := [mI q76.1]) rfl (Or.inl rfl)).trans ?_
      refine mi_bdc fun q79 => ?_
      refine (mx_if (c := q76.1 = q79.1) (p1 := 720) (l1 := [(0, mR 50 0 0), (1, mR 2 0 0), (2, mR 3 0 0), (3, mI v3)]) (s1 := []) (M1 := q79.2) (p2 := 573) (l2 := [(0, mR 50 0 0), (1, mR 2 0 0), (2, mR 3 0 0), (3, mI v3)]) (s2 := []) (M2 := q79.2) rfl).trans ?_
      refine mi_itc ?_ ?_
      · refine (mx_steps 2 (pc' := 18) (ls' := [(0, mR 50 0 0), (1, mR 2 0 0), (2, mR 3 0 0), (3, mI (v3 + 4))]) (st' := []) (M' := q79.2) rfl).trans ?_
        rfl
      · refine (mx_steps 1 (pc' := 574) (ls' := [(0, mR 50 0 0), (1, mR 2 0 0), (2, mR 3 0 0), (3, mI v3)]) (st' := [mI 0]) (M' := q79.2) rfl).trans ?_
        exact mx_ret rfl rfl
    refine mi_swc (F := fun tg => mi_ex mi_pI 143 tg (mi_jmp 143 tg [(0, mR 50 0 0), (1, mR 2 0 0), (2, mR 3 0 0), (3, mI v3)]) [] M) (k := 15) rfl ?_ ?_
    · show mi_ex mi_pI 143 575 [(0, mR 50 0 0), (1, mR 2 0 0), (2, mR 3 0 0), (3, mI v3)] [] M = _
      refine (mx_steps 5 (pc' := 580) (ls' := [(0, mR 50 0 0), (1, mR 2 0 0), (2, mR 3 0 0), (3, mI v3)]) (st' := [mI (v3 + 1), mR 50 0 0, mR 2 0 0]) (M' := M) rfl).trans ?_
      refine (mx_ix (i := v3 + 1) (n := (M.1 51 0 0).toNatClampNeg) (pc' := 581) (ls' := [(0, mR 50 0 0), (1, mR 2 0 0), (2, mR 3 0 0), (3, mI v3)]) (sf := fun k80 => [mI (M.1 50 0 k80), mR 2 0 0]) (Mf := fun k80 => M) rfl).trans ?_
      refine mi_bdc fun k80 => ?_
      refine (mx_callI (z := 54) (as := [mR 2 0 0, mI (M.1 50 0 k80)]) (pc' := 584) (ls' := [(0, mR 50 0 0), (1, mR 2 0 0), (2, mR 3 0 0), (3, mI v3)]) (r := []) rfl (Or.inl rfl)).trans ?_
      refine mi_bdc fun q81 => ?_
      refine (mx_steps 5 (pc' := 589) (ls' := [(0, mR 50 0 0), (1, mR 2 0 0), (2, mR 3 0 0), (3, mI v3)]) (st' := [mI (v3 + 1), mR 50 0 0, mR 3 0 0, mI q81.1]) (M' := q81.2) rfl).trans ?_
      refine (mx_ix (i := v3 + 1) (n := (q81.2.1 51 0 0).toNatClampNeg) (pc' := 590) (ls' := [(0, mR 50 0 0), (1, mR 2 0 0), (2, mR 3 0 0), (3, mI v3)]) (sf := fun k82 => [mI (q81.2.1 50 0 k82), mR 3 0 0, mI q81.1]) (Mf := fun k82 => q81.2) rfl).trans ?_
      refine mi_bdc fun k82 => ?_
      refine (mx_callI (z := 124) (as := [mR 3 0 0, mI (q81.2.1 50 0 k82)]) (pc' := 593) (ls' := [(0, mR 50 0 0), (1, mR 2 0 0), (2, mR 3 0 0), (3, mI v3)]) (r := [mI q81.1]) rfl (Or.inl rfl)).trans ?_
      refine mi_bdc fun q83 => ?_
      refine (mx_if (c := q81.1 = q83.1) (p1 := 720) (l1 := [(0, mR 50 0 0), (1, mR 2 0 0), (2, mR 3 0 0), (3, mI v3)]) (s1 := []) (M1 := q83.2) (p2 := 596) (l2 := [(0, mR 50 0 0), (1, mR 2 0 0), (2, mR 3 0 0), (3, mI v3)]) (s2 := []) (M2 := q83.2) rfl).trans ?_
      refine mi_itc ?_ ?_
      · refine (mx_steps 2 (pc' := 18) (ls' := [(0, mR 50 0 0), (1, mR 2 0 0), (2, mR 3 0 0), (3, mI (v3 + 4))]) (st' := []) (M' := q83.2) rfl).trans ?_
        rfl
      · refine (mx_steps 1 (pc' := 597) (ls' := [(0, mR 50 0 0), (1, mR 2 0 0), (2, mR 3 0 0), (3, mI v3)]) (st' := [mI 0]) (M' := q83.2) rfl).trans ?_
        exact mx_ret rfl rfl
    refine mi_swc (F := fun tg => mi_ex mi_pI 143 tg (mi_jmp 143 tg [(0, mR 50 0 0), (1, mR 2 0 0), (2, mR 3 0 0), (3, mI v3)]) [] M) (k := 16) rfl ?_ ?_
    · show mi_ex mi_pI 143 598 [(0, mR 50 0 0), (1, mR 2 0 0), (2, mR 3 0 0), (3, mI v3)] [] M = _
      refine (mx_steps 5 (pc' := 603) (ls' := [(0, mR 50 0 0), (1, mR 2 0 0), (2, mR 3 0 0), (3, mI v3)]) (st' := [mI (v3 + 1), mR 50 0 0, mR 2 0 0]) (M' := M) rfl).trans ?_
      refine (mx_ix (i := v3 + 1) (n := (M.1 51 0 0).toNatClampNeg) (pc' := 604) (ls' := [(0, mR 50 0 0), (1, mR 2 0 0), (2, mR 3 0 0), (3, mI v3)]) (sf := fun k84 => [mI (M.1 50 0 k84), mR 2 0 0]) (Mf := fun k84 => M) rfl).trans ?_
      refine mi_bdc fun k84 => ?_
      refine (mx_callI (z := 55) (as := [mR 2 0 0, mI (M.1 50 0 k84)]) (pc' := 607) (ls' := [(0, mR 50 0 0), (1, mR 2 0 0), (2, mR 3 0 0), (3, mI v3)]) (r := []) rfl (Or.inl rfl)).trans ?_
      refine mi_bdc fun q85 => ?_
      refine (mx_steps 5 (pc' := 612) (ls' := [(0, mR 50 0 0), (1, mR 2 0 0), (2, mR 3 0 0), (3, mI v3)]) (st' := [mI (v3 + 1), mR 50 0 0, mR 3 0 0, mI q85.1]) (M' := q85.2) rfl).trans ?_
      refine (mx_ix (i := v3 + 1) (n := (q85.2.1 51 0 0).toNatClampNeg) (pc' := 613) (ls' := [(0, mR 50 0 0), (1, mR 2 0 0), (2, mR 3 0 0), (3, mI v3)]) (sf := fun k86 => [mI (q85.2.1 50 0 k86), mR 3 0 0, mI q85.1]) (Mf := fun k86 => q85.2) rfl).trans ?_
      refine mi_bdc fun k86 => ?_
      refine (mx_callI (z := 128) (as := [mR 3 0 0, mI (q85.2.1 50 0 k86)]) (pc' := 616) (ls' := [(0, mR 50 0 0), (1, mR 2 0 0), (2, mR 3 0 0), (3, mI v3)]) (r := [mI q85.1]) rfl (Or.inl rfl)).trans ?_
      refine mi_bdc fun q87 => ?_
      refine (mx_if (c := q85.1 = q87.1) (p1 := 720) (l1 := [(0, mR 50 0 0), (1, mR 2 0 0), (2, mR 3 0 0), (3, mI v3)]) (s1 := []) (M1 := q87.2) (p2 := 619) (l2 := [(0, mR 50 0 0), (1, mR 2 0 0), (2, mR 3 0 0), (3, mI v3)]) (s2 := []) (M2 := q87.2) rfl).trans ?_
      refine mi_itc ?_ ?_
      · refine (mx_steps 2 (pc' := 18) (ls' := [(0, mR 50 0 0), (1, mR 2 0 0), (2, mR 3 0 0), (3, mI (v3 + 4))]) (st' := []) (M' := q87.2) rfl).trans ?_
        rfl
      · refine (mx_steps 1 (pc' := 620) (ls' := [(0, mR 50 0 0), (1, mR 2 0 0), (2, mR 3 0 0), (3, mI v3)]) (st' := [mI 0]) (M' := q87.2) rfl).trans ?_
        exact mx_ret rfl rfl
    refine mi_swc (F := fun tg => mi_ex mi_pI 143 tg (mi_jmp 143 tg [(0, mR 50 0 0), (1, mR 2 0 0), (2, mR 3 0 0), (3, mI v3)]) [] M) (k := 17) rfl ?_ ?_
    · show mi_ex mi_pI 143 621 [(0, mR 50 0 0), (1, mR 2 0 0), (2, mR 3 0 0), (3, mI v3)] [] M = _
      refine (mx_steps 5 (pc' := 626) (ls' := [(0, mR 50 0 0), (1, mR 2 0 0), (2, mR 3 0 0), (3, mI v3)]) (st' := [mI (v3 + 1), mR 50 0 0, mR 2 0 0]) (M' := M) rfl).trans ?_
      refine (mx_ix (i := v3 + 1) (n := (M.1 51 0 0).toNatClampNeg) (pc' := 627) (ls' := [(0, mR 50 0 0), (1, mR 2 0 0), (2, mR 3 0 0), (3, mI v3)]) (sf := fun k88 => [mI (M.1 50 0 k88), mR 2 0 0]) (Mf := fun k88 => M) rfl).trans ?_
      refine mi_bdc fun k88 => ?_
      refine (mx_callI (z := 56) (as := [mR 2 0 0, mI (M.1 50 0 k88)]) (pc' := 630) (ls' := [(0, mR 50 0 0), (1, mR 2 0 0), (2, mR 3 0 0), (3, mI v3)]) (r := []) rfl (Or.inl rfl)).trans ?_
      refine mi_bdc fun q89 => ?_
      refine (mx_steps 5 (pc' := 635) (ls' := [(0, mR 50 0 0), (1, mR 2 0 0), (2, mR 3 0 0), (3, mI v3)]) (st' := [mI (v3 + 1), mR 50 0 0, mR 3 0 0, mI q89.1]) (M' := q89.2) rfl).trans ?_
      refine (mx_ix (i := v3 + 1) (n := (q89.2.1 51 0 0).toNatClampNeg) (pc' := 636) (ls' := [(0, mR 50 0 0), (1, mR 2 0 0), (2, mR 3 0 0), (3, mI v3)]) (sf := fun k90 => [mI (q89.2.1 50 0 k90), mR 3 0 0, mI q89.1]) (Mf := fun k90 => q89.2) rfl).trans ?_
      refine mi_bdc fun k90 => ?_
      refine (mx_callI (z := 129) (as := [mR 3 0 0, mI (q89.2.1 50 0 k90)]) (pc' := 639) (ls' := [(0, mR 50 0 0), (1, mR 2 0 0), (2, mR 3 0 0), (3, mI v3)]) (r := [mI q89.1]) rfl (Or.inl rfl)).trans ?_
      refine mi_bdc fun q91 => ?_
      refine (mx_if (c := q89.1 = q91.1) (p1 := 720) (l1 := [(0, mR 50 0 0), (1, mR 2 0 0), (2, mR 3 0 0), (3, mI v3)]) (s1 := []) (M1 := q91.2) (p2 := 642) (l2 := [(0, mR 50 0 0), (1, mR 2 0 0), (2, mR 3 0 0), (3, mI v3)]) (s2 := []) (M2 := q91.2) rfl).trans ?_
      refine mi_itc ?_ ?_
      · refine (mx_steps 2 (pc' := 18) (ls' := [(0, mR 50 0 0), (1, mR 2 0 0), (2, mR 3 0 0), (3, mI (v3 + 4))]) (st' := []) (M' := q91.2) rfl).trans ?_
        rfl
      · refine (mx_steps 1 (pc' := 643) (ls' := [(0, mR 50 0 0), (1, mR 2 0 0), (2, mR 3 0 0), (3, mI v3)]) (st' := [mI 0]) (M' := q91.2) rfl).trans ?_
        exact mx_ret rfl rfl
    refine mi_swc (F := fun tg => mi_ex mi_pI 143 tg (mi_jmp 143 tg [(0, mR 50 0 0), (1, mR 2 0 0), (2, mR 3 0 0), (3, mI v3)]) [] M) (k := 18) rfl ?_ ?_
    · show mi_ex mi_pI 143 644 [(0, mR 50 0 0), (1, mR 2 0 0), (2, mR 3 0 0), (3, mI v3)] [] M = _
      refine (mx_steps 1 (pc' := 645) (ls' := [(0, mR 50 0 0), (1, mR 2 0 0), (2, mR 3 0 0), (3, mI v3)]) (st' := [mR 2 0 0]) (M' := M) rfl).trans ?_
      refine (mx_callI (z := 57) (as := [mR 2 0 0]) (pc' := 648) (ls' := [(0, mR 50 0 0), (1, mR 2 0 0), (2, mR 3 0 0), (3, mI v3)]) (r := []) rfl (Or.inl rfl)).trans ?_
      refine mi_bdc fun q92 => ?_
      refine (mx_steps 1 (pc' := 649) (ls' := [(0, mR 50 0 0), (1, mR 2 0 0), (2, mR 3 0 0), (3, mI v3)]) (st' := [mR 3 0 0, mI q92.1]) (M' := q92.2) rfl).trans ?_
      refine (mx_callI (z := 130) (as := [mR 3 0 0]) (pc' := 652) (ls' := [(0, mR 50 0 0), (1, mR 2 0 0), (2, mR 3 0 0), (3, mI v3)]) (r := [mI q92.1]) rfl (Or.inl rfl)).trans ?_
      refine mi_bdc fun q93 => ?_
      refine (mx_if (c := q92.1 = q93.1) (p1 := 720) (l1 := [(0, mR 50 0 0), (1, mR 2 0 0), (2, mR 3 0 0), (3, mI v3)]) (s1 := []) (M1 := q93.2) (p2 := 655) (l2 := [(0, mR 50 0 0), (1, mR 2 0 0), (2, mR 3 0 0), (3, mI v3)]) (s2 := []) (M2 := q93.2) rfl).trans ?_
      refine mi_itc ?_ ?_
      · refine (mx_steps 2 (pc' := 18) (ls' := [(0, mR 50 0 0), (1, mR 2 0 0), (2, mR 3 0 0), (3, mI (v3 + 4))]) (st' := []) (M' := q93.2) rfl).trans ?_
        rfl
      · refine (mx_steps 1 (pc' := 656) (ls' := [(0, mR 50 0 0), (1, mR 2 0 0), (2, mR 3 0 0), (3, mI v3)]) (st' := [mI 0]) (M' := q93.2) rfl).trans ?_
        exact mx_ret rfl rfl
    refine mi_swc (F := fun tg => mi_ex mi_pI 143 tg (mi_jmp 143 tg [(0, mR 50 0 0), (1, mR 2 0 0), (2, mR 3 0 0), (3, mI v3)]) [] M) (k := 19) rfl ?_ ?_
    · show mi_ex mi_pI 143 657 [(0, mR 50 0 0), (1, mR 2 0 0), (2, mR 3 0 0), (3, mI v3)] [] M = _
      refine (mx_steps 1 (pc' := 658) (ls' := [(0, mR 50 0 0), (1, mR 2 0 0), (2, mR 3 0 0), (3, mI v3)]) (st' := [mR 2 0 0]) (M' := M) rfl).trans ?_
      refine (mx_callI (z := 58) (as := [mR 2 0 0]) (pc' := 661) (ls' := [(0, mR 50 0 0), (1, mR 2 0 0), (2, mR 3 0 0), (3, mI v3)]) (r := []) rfl (Or.inl rfl)).trans ?_
      refine mi_bdc fun q94 => ?_
      refine (mx_steps 1 (pc' := 662) (ls' := [(0, mR 50 0 0), (1, mR 2 0 0), (2, mR 3 0 0), (3, mI v3)]) (st' := [mR 3 0 0, mI q94.1]) (M' := q94.2) rfl).trans ?_
      refine (mx_callI (z := 138) (as := [mR 3 0 0]) (pc' := 665) (ls' := [(0, mR 50 0 0), (1, mR 2 0 0), (2, mR 3 0 0), (3, mI v3)]) (r := [mI q94.1]) rfl (Or.inl rfl)).trans ?_
      refine mi_bdc fun q95 => ?_
      refine (mx_if (c := q94.1 = q95.1) (p1 := 720) (l1 := [(0, mR 50 0 0), (1, mR 2 0 0), (2, mR 3 0 0), (3, mI v3)]) (s1 := []) (M1 := q95.2) (p2 := 668) (l2 := [(0, mR 50 0 0), (1, mR 2 0 0), (2, mR 3 0 0), (3, mI v3)]) (s2 := []) (M2 := q95.2) rfl).trans ?_
      refine mi_itc ?_ ?_
      · refine (mx_steps 2 (pc' := 18) (ls' := [(0, mR 50 0 0), (1, mR 2 0 0), (2, mR 3 0 0), (3, mI (v3 + 4))]) (st' := []) (M' := q95.2) rfl).trans ?_
        rfl
      · refine (mx_steps 1 (pc' := 669) (ls' := [(0, mR 50 0 0), (1, mR 2 0 0), (2, mR 3 0 0), (3, mI v3)]) (st' := [mI 0]) (M' := q95.2) rfl).trans ?_
        exact mx_ret rfl rfl
    refine mi_swc (F := fun tg => mi_ex mi_pI 143 tg (mi_jmp 143 tg [(0, mR 50 0 0), (1, mR 2 0 0), (2, mR 3 0 0), (3, mI v3)]) [] M) (k := 20) rfl ?_ ?_
    · show mi_ex mi_pI 143 670 [(0, mR 50 0 0), (1, mR 2 0 0), (2, mR 3 0 0), (3, mI v3)] [] M = _
      refine (mx_steps 1 (pc' := 671) (ls' := [(0, mR 50 0 0), (1, mR 2 0 0), (2, mR 3 0 0), (3, mI v3)]) (st' := [mR 2 0 0]) (M' := M) rfl).trans ?_
      refine (mx_callI (z := 59) (as := [mR 2 0 0]) (pc' := 674) (ls' := [(0, mR 50 0 0), (1, mR 2 0 0), (2, mR 3 0 0), (3, mI v3)]) (r := []) rfl (Or.inl rfl)).trans ?_
      refine mi_bdc fun q96 => ?_
      refine (mx_steps 1 (pc' := 675) (ls' := [(0, mR 50 0 0), (1, mR 2 0 0), (2, mR 3 0 0), (3, mI v3)]) (st' := [mR 3 0 0, mI q96.1]) (M' := q96.2) rfl).trans ?_
      refine (mx_callI (z := 73) (as := [mR 3 0 0]) (pc' := 678) (ls' := [(0, mR 50 0 0), (1, mR 2 0 0), (2, mR 3 0 0), (3, mI v3)]) (r := [mI q96.1]) rfl (Or.inl rfl)).trans ?_
      refine mi_bdc fun q97 => ?_
      refine (mx_if (c := q96.1 = q97.1) (p1 := 720) (l1 := [(0, mR 50 0 0), (1, mR 2 0 0), (2, mR 3 0 0), (3, mI v3)]) (s1 := []) (M1 := q97.2) (p2 := 681) (l2 := [(0, mR 50 0 0), (1, mR 2 0 0), (2, mR 3 0 0), (3, mI v3)]) (s2 := []) (M2 := q97.2) rfl).trans ?_
      refine mi_itc ?_ ?_
      · refine (mx_steps 2 (pc' := 18) (ls' := [(0, mR 50 0 0), (1, mR 2 0 0), (2, mR 3 0 0), (3, mI (v3 + 4))]) (st' := []) (M' := q97.2) rfl).trans ?_
        rfl
      · refine (mx_steps 1 (pc' := 682) (ls' := [(0, mR 50 0 0), (1, mR 2 0 0), (2, mR 3 0 0), (3, mI v3)]) (st' := [mI 0]) (M' := q97.2) rfl).trans ?_
        exact mx_ret rfl rfl
    refine mi_swc (F := fun tg => mi_ex mi_pI 143 tg (mi_jmp 143 tg [(0, mR 50 0 0), (1, mR 2 0 0), (2, mR 3 0 0), (3, mI v3)]) [] M) (k := 21) rfl ?_ ?_
    · show mi_ex mi_pI 143 683 [(0, mR 50 0 0), (1, mR 2 0 0), (2, mR 3 0 0), (3, mI v3)] [] M = _
      refine (mx_steps 5 (pc' := 688) (ls' := [(0, mR 50 0 0), (1, mR 2 0 0), (2, mR 3 0 0), (3, mI v3)]) (st' := [mI (v3 + 1), mR 50 0 0, mR 2 0 0]) (M' := M) rfl).trans ?_
      refine (mx_ix (i := v3 + 1) (n := (M.1 51 0 0).toNatClampNeg) (pc' := 689) (ls' := [(0, mR 50 0 0), (1, mR 2 0 0), (2, mR 3 0 0), (3, mI v3)]) (sf := fun k98 => [mI (M.1 50 0 k98), mR 2 0 0]) (Mf := fun k98 => M) rfl).trans ?_
      refine mi_bdc fun k98 => ?_
      refine (mx_callI (z := 60) (as := [mR 2 0 0, mI (M.1 50 0 k98)]) (pc' := 692) (ls' := [(0, mR 50 0 0), (1, mR 2 0 0), (2, mR 3 0 0), (3, mI v3)]) (r := []) rfl (Or.inl rfl)).trans ?_
      refine mi_bdc fun q99 => ?_
      refine (mx_steps 5 (pc' := 697) (ls' := [(0, mR 50 0 0), (1, mR 2 0 0), (2, mR 3 0 0), (3, mI v3)]) (st' := [mI (v3 + 1), mR 50 0 0, mR 3 0 0, mI q99.1]) (M' := q99.2) rfl).trans ?_
      refine (mx_ix (i := v3 + 1) (n := (q99.2.1 51 0 0).toNatClampNeg) (pc' := 698) (ls' := [(0, mR 50 0 0), (1, mR 2 0 0), (2, mR 3 0 0), (3, mI v3)]) (sf := fun k100 => [mI (q99.2.1 50 0 k100), mR 3 0 0, mI q99.1]) (Mf := fun k100 => q99.2) rfl).trans ?_
      refine mi_bdc fun k100 => ?_
      refine (mx_callI (z := 140) (as := [mR 3 0 0, mI (q99.2.1 50 0 k100)]) (pc' := 701) (ls' := [(0, mR 50 0 0), (1, mR 2 0 0), (2, mR 3 0 0), (3, mI v3)]) (r := [mI q99.1]) rfl (Or.inl rfl)).trans ?_
      refine mi_bdc fun q101 => ?_
      refine (mx_if (c := q99.1 = q101.1) (p1 := 720) (l1 := [(0, mR 50 0 0), (1, mR 2 0 0), (2, mR 3 0 0), (3, mI v3)]) (s1 := []) (M1 := q101.2) (p2 := 704) (l2 := [(0, mR 50 0 0), (1, mR 2 0 0), (2, mR 3 0 0), (3, mI v3)]) (s2 := []) (M2 := q101.2) rfl).trans ?_
      refine mi_itc ?_ ?_
      · refine (mx_steps 2 (pc' := 18) (ls' := [(0, mR 50 0 0), (1, mR 2 0 0), (2, mR 3 0 0), (3, mI (v3 + 4))]) (st' := []) (M' := q101.2) rfl).trans ?_
        rfl
      · refine (mx_steps 1 (pc' := 705) (ls' := [(0, mR 50 0 0), (1, mR 2 0 0), (2, mR 3 0 0), (3, mI v3)]) (st' := [mI 0]) (M' := q101.2) rfl).trans ?_
        exact mx_ret rfl rfl
    refine mi_swc (F := fun tg => mi_ex mi_pI 143 tg (mi_jmp 143 tg [(0, mR 50 0 0), (1, mR 2 0 0), (2, mR 3 0 0), (3, mI v3)]) [] M) (k := 22) rfl ?_ ?_
    · show mi_ex mi_pI 143 706 [(0, mR 50 0 0), (1, mR 2 0 0), (2, mR 3 0 0), (3, mI v3)] [] M = _
      refine (mx_steps 1 (pc' := 707) (ls' := [(0, mR 50 0 0), (1, mR 2 0 0), (2, mR 3 0 0), (3, mI v3)]) (st' := [mR 2 0 0]) (M' := M) rfl).trans ?_
      refine (mx_callL (z := 61) (as := [mR 2 0 0]) (pc' := 710) (ls' := [(0, mR 50 0 0), (1, mR 2 0 0), (2, mR 3 0 0), (3, mI v3)]) (r := []) rfl rfl).trans ?_
      refine mi_bdc fun q102 => ?_
      refine (mx_steps 1 (pc' := 711) (ls' := [(0, mR 50 0 0), (1, mR 2 0 0), (2, mR 3 0 0), (3, mI v3)]) (st' := [mR 3 0 0, mL q102.1]) (M' := q102.2) rfl).trans ?_
      refine (mx_callL (z := 142) (as := [mR 3 0 0]) (pc' := 714) (ls' := [(0, mR 50 0 0), (1, mR 2 0 0), (2, mR 3 0 0), (3, mI v3)]) (r := [mL q102.1]) rfl rfl).trans ?_
      refine mi_bdc fun q103 => ?_
      refine (mx_steps 1 (pc' := 715) (ls' := [(0, mR 50 0 0), (1, mR 2 0 0), (2, mR 3 0 0), (3, mI v3)]) (st' := [mI (lg_cmp q102.1 q103.1)]) (M' := q103.2) rfl).trans ?_
      refine (mx_if (c := (lg_cmp q102.1 q103.1) = 0) (p1 := 720) (l1 := [(0, mR 50 0 0), (1, mR 2 0 0), (2, mR 3 0 0), (3, mI v3)]) (s1 := []) (M1 := q103.2) (p2 := 718) (l2 := [(0, mR 50 0 0), (1, mR 2 0 0), (2, mR 3 0 0), (3, mI v3)]) (s2 := []) (M2 := q103.2) rfl).trans ?_
      refine mi_itc ?_ ?_
      · refine (mx_steps 2 (pc' := 18) (ls' := [(0, mR 50 0 0), (1, mR 2 0 0), (2, mR 3 0 0), (3, mI (v3 + 4))]) (st' := []) (M' := q103.2) rfl).trans ?_
        rfl
      · refine (mx_steps 1 (pc' := 719) (ls' := [(0, mR 50 0 0), (1, mR 2 0 0), (2, mR 3 0 0), (3, mI v3)]) (st' := [mI 0]) (M' := q103.2) rfl).trans ?_
        exact mx_ret rfl rfl
    show mi_ex mi_pI 143 720 [(0, mR 50 0 0), (1, mR 2 0 0), (2, mR 3 0 0), (3, mI v3)] [] M = _
    refine (mx_steps 2 (pc' := 18) (ls' := [(0, mR 50 0 0), (1, mR 2 0 0), (2, mR 3 0 0), (3, mI (v3 + 4))]) (st' := []) (M' := M) rfl).trans ?_
    rfl

