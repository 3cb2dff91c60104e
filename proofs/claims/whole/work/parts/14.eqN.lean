set_option maxRecDepth 20000 in
theorem fN_copyFrom_eq (j : Nat) (k : Nat) (M : mM) : fN_copyFrom j k M = (mi_ac (15, k, 0) (15, j, 0) 0 0 3 (mi_set (mi_set (mi_set M 0 j 4 (M.1 0 k 4)) 0 j 5 ((mi_set M 0 j 4 (M.1 0 k 4)).1 0 k 5)) 0 j 3 ((mi_set (mi_set M 0 j 4 (M.1 0 k 4)) 0 j 5 ((mi_set M 0 j 4 (M.1 0 k 4)).1 0 k 5)).1 0 k 3))).bind fun M1 => fN_copyFrom_L40 j k 0 M1 := by
  refine (mx_steps 19 (pc' := 35) (ls' := [(0, mR 0 j 0), (1, mR 0 k 0)]) (st' := [mI 3, mI 0, mR 15 j 0, mI 0, mR 15 k 0]) (M' := mi_set (mi_set (mi_set M 0 j 4 (M.1 0 k 4)) 0 j 5 ((mi_set M 0 j 4 (M.1 0 k 4)).1 0 k 5)) 0 j 3 ((mi_set (mi_set M 0 j 4 (M.1 0 k 4)) 0 j 5 ((mi_set M 0 j 4 (M.1 0 k 4)).1 0 k 5)).1 0 k 3)) rfl).trans ?_
  refine (mx_ac (o := mi_ac (15, k, 0) (15, j, 0) 0 0 3 (mi_set (mi_set (mi_set M 0 j 4 (M.1 0 k 4)) 0 j 5 ((mi_set M 0 j 4 (M.1 0 k 4)).1 0 k 5)) 0 j 3 ((mi_set (mi_set M 0 j 4 (M.1 0 k 4)) 0 j 5 ((mi_set M 0 j 4 (M.1 0 k 4)).1 0 k 5)).1 0 k 3))) (pc' := 38) (ls' := [(0, mR 0 j 0), (1, mR 0 k 0)]) (r := []) rfl).trans ?_
  refine mi_bdc fun M1 => ?_
  refine (mx_steps 2 (pc' := 40) (ls' := [(0, mR 0 j 0), (1, mR 0 k 0), (2, mI 0)]) (st' := []) (M' := M1) rfl).trans ?_
  rfl

set_option maxRecDepth 20000 in
theorem fN_copyFrom_L40_eq (j : Nat) (k : Nat) (v2 : Int32) (M : mM) : fN_copyFrom_L40 j k v2 M = (if (M.1 0 j 4) ≤ v2 then fN_copyFrom_L75 j k 0 M else (mi_ix v2 6).bind fun k1 => (mi_ix v2 6).bind fun k2 => (mi_ac (12, k, k1) (12, j, k2) 0 0 8 M).bind fun M3 => fN_copyFrom_L40 j k (v2 + 1) M3) := by
  refine (mx_steps 3 (pc' := 45) (ls' := [(0, mR 0 j 0), (1, mR 0 k 0), (2, mI v2)]) (st' := [mI (M.1 0 j 4), mI v2]) (M' := M) rfl).trans ?_
  refine (mx_if (c := (M.1 0 j 4) ≤ v2) (p1 := 73) (l1 := [(0, mR 0 j 0), (1, mR 0 k 0), (2, mI v2)]) (s1 := []) (M1 := M) (p2 := 48) (l2 := [(0, mR 0 j 0), (1, mR 0 k 0), (2, mI v2)]) (s2 := []) (M2 := M) rfl).trans ?_
  refine mi_itc ?_ ?_
  · refine (mx_steps 2 (pc' := 75) (ls' := [(0, mR 0 j 0), (1, mR 0 k 0), (2, mI 0)]) (st' := []) (M' := M) rfl).trans ?_
    rfl
  · refine (mx_steps 3 (pc' := 53) (ls' := [(0, mR 0 j 0), (1, mR 0 k 0), (2, mI v2)]) (st' := [mI v2, mR 11 k 0]) (M' := M) rfl).trans ?_
    refine (mx_ix (i := v2) (n := 6) (pc' := 54) (ls' := [(0, mR 0 j 0), (1, mR 0 k 0), (2, mI v2)]) (sf := fun k1 => [mR 12 k k1]) (Mf := fun k1 => M) rfl).trans ?_
    refine mi_bdc fun k1 => ?_
    refine (mx_steps 4 (pc' := 60) (ls' := [(0, mR 0 j 0), (1, mR 0 k 0), (2, mI v2)]) (st' := [mI v2, mR 11 j 0, mI 0, mR 12 k k1]) (M' := M) rfl).trans ?_
    refine (mx_ix (i := v2) (n := 6) (pc' := 61) (ls' := [(0, mR 0 j 0), (1, mR 0 k 0), (2, mI v2)]) (sf := fun k2 => [mR 12 j k2, mI 0, mR 12 k k1]) (Mf := fun k2 => M) rfl).trans ?_
    refine mi_bdc fun k2 => ?_
    refine (mx_steps 2 (pc' := 64) (ls' := [(0, mR 0 j 0), (1, mR 0 k 0), (2, mI v2)]) (st' := [mI 8, mI 0, mR 12 j k2, mI 0, mR 12 k k1]) (M' := M) rfl).trans ?_
    refine (mx_ac (o := mi_ac (12, k, k1) (12, j, k2) 0 0 8 M) (pc' := 67) (ls' := [(0, mR 0 j 0), (1, mR 0 k 0), (2, mI v2)]) (r := []) rfl).trans ?_
    refine mi_bdc fun M3 => ?_
    refine (mx_steps 2 (pc' := 40) (ls' := [(0, mR 0 j 0), (1, mR 0 k 0), (2, mI (v2 + 1))]) (st' := []) (M' := M3) rfl).trans ?_
    rfl

set_option maxRecDepth 20000 in
theorem fN_copyFrom_L75_eq (j : Nat) (k : Nat) (v2 : Int32) (M : mM) : fN_copyFrom_L75 j k v2 M = (if (M.1 0 j 5) ≤ v2 then some M else (mi_ix v2 10).bind fun k1 => (mi_ix v2 10).bind fun k2 => (mi_ac (14, k, k1) (14, j, k2) 0 0 10 M).bind fun M3 => fN_copyFrom_L75 j k (v2 + 1) M3) := by
  refine (mx_steps 3 (pc' := 80) (ls' := [(0, mR 0 j 0), (1, mR 0 k 0), (2, mI v2)]) (st' := [mI (M.1 0 j 5), mI v2]) (M' := M) rfl).trans ?_
  refine (mx_if (c := (M.1 0 j 5) ≤ v2) (p1 := 108) (l1 := [(0, mR 0 j 0), (1, mR 0 k 0), (2, mI v2)]) (s1 := []) (M1 := M) (p2 := 83) (l2 := [(0, mR 0 j 0), (1, mR 0 k 0), (2, mI v2)]) (s2 := []) (M2 := M) rfl).trans ?_
  refine mi_itc ?_ ?_
  · exact mx_ret rfl rfl
  · refine (mx_steps 3 (pc' := 88) (ls' := [(0, mR 0 j 0), (1, mR 0 k 0), (2, mI v2)]) (st' := [mI v2, mR 13 k 0]) (M' := M) rfl).trans ?_
    refine (mx_ix (i := v2) (n := 10) (pc' := 89) (ls' := [(0, mR 0 j 0), (1, mR 0 k 0), (2, mI v2)]) (sf := fun k1 => [mR 14 k k1]) (Mf := fun k1 => M) rfl).trans ?_
    refine mi_bdc fun k1 => ?_
    refine (mx_steps 4 (pc' := 95) (ls' := [(0, mR 0 j 0), (1, mR 0 k 0), (2, mI v2)]) (st' := [mI v2, mR 13 j 0, mI 0, mR 14 k k1]) (M' := M) rfl).trans ?_
    refine (mx_ix (i := v2) (n := 10) (pc' := 96) (ls' := [(0, mR 0 j 0), (1, mR 0 k 0), (2, mI v2)]) (sf := fun k2 => [mR 14 j k2, mI 0, mR 14 k k1]) (Mf := fun k2 => M) rfl).trans ?_
    refine mi_bdc fun k2 => ?_
    refine (mx_steps 2 (pc' := 99) (ls' := [(0, mR 0 j 0), (1, mR 0 k 0), (2, mI v2)]) (st' := [mI 10, mI 0, mR 14 j k2, mI 0, mR 14 k k1]) (M' := M) rfl).trans ?_
    refine (mx_ac (o := mi_ac (14, k, k1) (14, j, k2) 0 0 10 M) (pc' := 102) (ls' := [(0, mR 0 j 0), (1, mR 0 k 0), (2, mI v2)]) (r := []) rfl).trans ?_
    refine mi_bdc fun M3 => ?_
    refine (mx_steps 2 (pc' := 75) (ls' := [(0, mR 0 j 0), (1, mR 0 k 0), (2, mI (v2 + 1))]) (st' := []) (M' := M3) rfl).trans ?_
    rfl

set_option maxRecDepth 20000 in
theorem fN_hasNode_eq (j : Nat) (a1 : Int32) (M : mM) : fN_hasNode j a1 M = (if a1 < 0 then some (0, M) else (if (M.1 0 j 4) ≤ a1 then some (0, M) else some (1, M))) := by
  refine (mx_steps 1 (pc' := 1) (ls' := [(0, mR 0 j 0), (1, mI a1)]) (st' := [mI a1]) (M' := M) rfl).trans ?_
  refine (mx_if (c := a1 < 0) (p1 := 16) (l1 := [(0, mR 0 j 0), (1, mI a1)]) (s1 := []) (M1 := M) (p2 := 4) (l2 := [(0, mR 0 j 0), (1, mI a1)]) (s2 := []) (M2 := M) rfl).trans ?_
  refine mi_itc ?_ ?_
  · refine (mx_steps 1 (pc' := 17) (ls' := [(0, mR 0 j 0), (1, mI a1)]) (st' := [mI 0]) (M' := M) rfl).trans ?_
    exact mx_ret rfl rfl
  · refine (mx_steps 3 (pc' := 9) (ls' := [(0, mR 0 j 0), (1, mI a1)]) (st' := [mI (M.1 0 j 4), mI a1]) (M' := M) rfl).trans ?_
    refine (mx_if (c := (M.1 0 j 4) ≤ a1) (p1 := 16) (l1 := [(0, mR 0 j 0), (1, mI a1)]) (s1 := []) (M1 := M) (p2 := 12) (l2 := [(0, mR 0 j 0), (1, mI a1)]) (s2 := []) (M2 := M) rfl).trans ?_
    refine mi_itc ?_ ?_
    · refine (mx_steps 1 (pc' := 17) (ls' := [(0, mR 0 j 0), (1, mI a1)]) (st' := [mI 0]) (M' := M) rfl).trans ?_
      exact mx_ret rfl rfl
    · refine (mx_steps 2 (pc' := 17) (ls' := [(0, mR 0 j 0), (1, mI a1)]) (st' := [mI 1]) (M' := M) rfl).trans ?_
      exact mx_ret rfl rfl

set_option maxRecDepth 20000 in
theorem fN_hasLink_eq (j : Nat) (a1 : Int32) (M : mM) : fN_hasLink j a1 M = (if a1 < 0 then some (0, M) else (if (M.1 0 j 5) ≤ a1 then some (0, M) else some (1, M))) := by
  refine (mx_steps 1 (pc' := 1) (ls' := [(0, mR 0 j 0), (1, mI a1)]) (st' := [mI a1]) (M' := M) rfl).trans ?_
  refine (mx_if (c := a1 < 0) (p1 := 16) (l1 := [(0, mR 0 j 0), (1, mI a1)]) (s1 := []) (M1 := M) (p2 := 4) (l2 := [(0, mR 0 j 0), (1, mI a1)]) (s2 := []) (M2 := M) rfl).trans ?_
  refine mi_itc ?_ ?_
  · refine (mx_steps 1 (pc' := 17) (ls' := [(0, mR 0 j 0), (1, mI a1)]) (st' := [mI 0]) (M' := M) rfl).trans ?_
    exact mx_ret rfl rfl
  · refine (mx_steps 3 (pc' := 9) (ls' := [(0, mR 0 j 0), (1, mI a1)]) (st' := [mI (M.1 0 j 5), mI a1]) (M' := M) rfl).trans ?_
    refine (mx_if (c := (M.1 0 j 5) ≤ a1) (p1 := 16) (l1 := [(0, mR 0 j 0), (1, mI a1)]) (s1 := []) (M1 := M) (p2 := 12) (l2 := [(0, mR 0 j 0), (1, mI a1)]) (s2 := []) (M2 := M) rfl).trans ?_
    refine mi_itc ?_ ?_
    · refine (mx_steps 1 (pc' := 17) (ls' := [(0, mR 0 j 0), (1, mI a1)]) (st' := [mI 0]) (M' := M) rfl).trans ?_
      exact mx_ret rfl rfl
    · refine (mx_steps 2 (pc' := 17) (ls' := [(0, mR 0 j 0), (1, mI a1)]) (st' := [mI 1]) (M' := M) rfl).trans ?_
      exact mx_ret rfl rfl

set_option maxRecDepth 20000 in
theorem fN_carryOut_eq (j : Nat) (a1 : Int32) (a2 : Int32) (a3 : Int32) (a4 : Int32) (M : mM) : fN_carryOut j a1 a2 a3 a4 M = (if a1 = 99 then (fN_clearLink j a2 M).bind fun q1 => some (q1.1, q1.2) else (if a1 = 100 then some ((-1002), M) else (if a1 = 101 then some ((-1002), M) else (if a1 = 102 then some ((-1002), M) else (if a1 = 103 then some ((-1002), M) else (if a1 = 104 then some ((-1002), M) else (if a1 = 105 then some ((-1002), M) else (if a1 = 106 then some ((-1002), M) else (if a1 = 107 then (fN_lookOften j a2 M).bind fun q2 => some (q2.1, q2.2) else (if a1 = 108 then (fN_addLink j a2 a3 a4 M).bind fun q3 => some (q3.1, q3.2) else (if a1 = 109 then some ((-1002), M) else (if a1 = 110 then (fN_addNode j a2 a3 M).bind fun q4 => some (q4.1, q4.2) else (if a1 = 111 then (fN_tellOwn j a2 a3 a4 M).bind fun q5 => some (q5.1, q5.2) else (if a1 = 112 then some ((-1002), M) else (if a1 = 113 then some ((-1002), M) else (if a1 = 114 then some ((-1002), M) else (if a1 = 115 then (fN_tellSetting j a2 a3 M).bind fun q6 => some (q6.1, q6.2) else (if a1 = 116 then (fN_tickOften j a2 M).bind fun q7 => some (q7.1, q7.2) else (if a1 = 117 then (fN_turnLink j a2 M).bind fun q8 => some (q8.1, q8.2) else some ((-1002), M)))))))))))))))))))) := by
  refine (mx_steps 1 (pc' := 1) (ls' := [(0, mR 0 j 0), (1, mI a1), (2, mI a2), (3, mI a3), (4, mI a4)]) (st' := [mI a1]) (M' := M) rfl).trans ?_
  refine (mx_table (x := a1) (lo := 99) (ts := [130, 148, 148, 148, 148, 148, 148, 148, 136, 99, 148, 92, 108, 148, 148, 148, 123, 142, 117]) (d := 148) rfl).trans ?_
  refine mi_swc (F := fun tg => mi_ex mi_pI 3 tg (mi_jmp 3 tg [(0, mR 0 j 0), (1, mI a1), (2, mI a2), (3, mI a3), (4, mI a4)]) [] M) (k := 99) rfl ?_ ?_
  · show mi_ex mi_pI 3 130 [(0, mR 0 j 0), (1, mI a1), (2, mI a2), (3, mI a3), (4, mI a4)] [] M = _
    refine (mx_steps 2 (pc' := 132) (ls' := [(0, mR 0 j 0), (1, mI a1), (2, mI a2), (3, mI a3), (4, mI a4)]) (st' := [mI a2, mR 0 j 0]) (M' := M) rfl).trans ?_
    refine (mx_callI (z := 9) (as := [mR 0 j 0, mI a2]) (pc' := 135) (ls' := [(0, mR 0 j 0), (1, mI a1), (2, mI a2), (3, mI a3), (4, mI a4)]) (r := []) rfl (Or.inl rfl)).trans ?_
    refine mi_bdc fun q1 => ?_
    exact mx_ret rfl rfl
  refine mi_swc (F := fun tg => mi_ex mi_pI 3 tg (mi_jmp 3 tg [(0, mR 0 j 0), (1, mI a1), (2, mI a2), (3, mI a3), (4, mI a4)]) [] M) (k := 100) rfl ?_ ?_
  · show mi_ex mi_pI 3 148 [(0, mR 0 j 0), (1, mI a1), (2, mI a2), (3, mI a3), (4, mI a4)] [] M = _
    refine (mx_steps 1 (pc' := 151) (ls' := [(0, mR 0 j 0), (1, mI a1), (2, mI a2), (3, mI a3), (4, mI a4)]) (st' := [mI ((-1002))]) (M' := M) rfl).trans ?_
    exact mx_ret rfl rfl
  refine mi_swc (F := fun tg => mi_ex mi_pI 3 tg (mi_jmp 3 tg [(0, mR 0 j 0), (1, mI a1), (2, mI a2), (3, mI a3), (4, mI a4)]) [] M) (k := 101) rfl ?_ ?_
  · show mi_ex mi_pI 3 148 [(0, mR 0 j 0), (1, mI a1), (2, mI a2), (3, mI a3), (4, mI a4)] [] M = _
    refine (mx_steps 1 (pc' := 151) (ls' := [(0, mR 0 j 0), (1, mI a1), (2, mI a2), (3, mI a3), (4, mI a4)]) (st' := [mI ((-1002))]) (M' := M) rfl).trans ?_
    exact mx_ret rfl rfl
  refine mi_swc (F := fun tg => mi_ex mi_pI 3 tg (mi_jmp 3 tg [(0, mR 0 j 0), (1, mI a1), (2, mI a2), (3, mI a3), (4, mI a4)]) [] M) (k := 102) rfl ?_ ?_
  · show mi_ex mi_pI 3 148 [(0, mR 0 j 0), (1, mI a1), (2, mI a2), (3, mI a3), (4, mI a4)] [] M = _
    refine (mx_steps 1 (pc' := 151) (ls' := [(0, mR 0 j 0), (1, mI a1), (2, mI a2), (3, mI a3), (4, mI a4)]) (st' := [mI ((-1002))]) (M' := M) rfl).trans ?_
    exact mx_ret rfl rfl
  refine mi_swc (F := fun tg => mi_ex mi_pI 3 tg (mi_jmp 3 tg [(0, mR 0 j 0), (1, mI a1), (2, mI a2), (3, mI a3), (4, mI a4)]) [] M) (k := 103) rfl ?_ ?_
  · show mi_ex mi_pI 3 148 [(0, mR 0 j 0), (1, mI a1), (2, mI a2), (3, mI a3), (4, mI a4)] [] M = _
    refine (mx_steps 1 (pc' := 151) (ls' := [(0, mR 0 j 0), (1, mI a1), (2, mI a2), (3, mI a3), (4, mI a4)]) (st' := [mI ((-1002))]) (M' := M) rfl).trans ?_
    exact mx_ret rfl rfl
  refine mi_swc (F := fun tg => mi_ex mi_pI 3 tg (mi_jmp 3 tg [(0, mR 0 j 0), (1, mI a1), (2, mI a2), (3, mI a3), (4, mI a4)]) [] M) (k := 104) rfl ?_ ?_
  · show mi_ex mi_pI 3 148 [(0, mR 0 j 0), (1, mI a1), (2, mI a2), (3, mI a3), (4, mI a4)] [] M = _
    refine (mx_steps 1 (pc' := 151) (ls' := [(0, mR 0 j 0), (1, mI a1), (2, mI a2), (3, mI a3), (4, mI a4)]) (st' := [mI ((-1002))]) (M' := M) rfl).trans ?_
    exact mx_ret rfl rfl
  refine mi_swc (F := fun tg => mi_ex mi_pI 3 tg (mi_jmp 3 tg [(0, mR 0 j 0), (1, mI a1), (2, mI a2), (3, mI a3), (4, mI a4)]) [] M) (k := 105) rfl ?_ ?_
  · show mi_ex mi_pI 3 148 [(0, mR 0 j 0), (1, mI a1), (2, mI a2), (3, mI a3), (4, mI a4)] [] M = _
    refine (mx_steps 1 (pc' := 151) (ls' := [(0, mR 0 j 0), (1, mI a1), (2, mI a2), (3, mI a3), (4, mI a4)]) (st' := [mI ((-1002))]) (M' := M) rfl).trans ?_
    exact mx_ret rfl rfl
  refine mi_swc (F := fun tg => mi_ex mi_pI 3 tg (mi_jmp 3 tg [(0, mR 0 j 0), (1, mI a1), (2, mI a2), (3, mI a3), (4, mI a4)]) [] M) (k := 106) rfl ?_ ?_
  · show mi_ex mi_pI 3 148 [(0, mR 0 j 0), (1, mI a1), (2, mI a2), (3, mI a3), (4, mI a4)] [] M = _
    refine (mx_steps 1 (pc' := 151) (ls' := [(0, mR 0 j 0), (1, mI a1), (2, mI a2), (3, mI a3), (4, mI a4)]) (st' := [mI ((-1002))]) (M' := M) rfl).trans ?_
    exact mx_ret rfl rfl
  refine mi_swc (F := fun tg => mi_ex mi_pI 3 tg (mi_jmp 3 tg [(0, mR 0 j 0), (1, mI a1), (2, mI a2), (3, mI a3), (4, mI a4)]) [] M) (k := 107) rfl ?_ ?_
  · show mi_ex mi_pI 3 136 [(0, mR 0 j 0), (1, mI a1), (2, mI a2), (3, mI a3), (4, mI a4)] [] M = _
    refine (mx_steps 2 (pc' := 138) (ls' := [(0, mR 0 j 0), (1, mI a1), (2, mI a2), (3, mI a3), (4, mI a4)]) (st' := [mI a2, mR 0 j 0]) (M' := M) rfl).trans ?_
    refine (mx_callI (z := 10) (as := [mR 0 j 0, mI a2]) (pc' := 141) (ls' := [(0, mR 0 j 0), (1, mI a1), (2, mI a2), (3, mI a3), (4, mI a4)]) (r := []) rfl (Or.inl rfl)).trans ?_
    refine mi_bdc fun q2 => ?_
    exact mx_ret rfl rfl
  refine mi_swc (F := fun tg => mi_ex mi_pI 3 tg (mi_jmp 3 tg [(0, mR 0 j 0), (1, mI a1), (2, mI a2), (3, mI a3), (4, mI a4)]) [] M) (k := 108) rfl ?_ ?_
  · show mi_ex mi_pI 3 99 [(0, mR 0 j 0), (1, mI a1), (2, mI a2), (3, mI a3), (4, mI a4)] [] M = _
    refine (mx_steps 4 (pc' := 104) (ls' := [(0, mR 0 j 0), (1, mI a1), (2, mI a2), (3, mI a3), (4, mI a4)]) (st' := [mI a4, mI a3, mI a2, mR 0 j 0]) (M' := M) rfl).trans ?_
    refine (mx_callI (z := 5) (as := [mR 0 j 0, mI a2, mI a3, mI a4]) (pc' := 107) (ls' := [(0, mR 0 j 0), (1, mI a1), (2, mI a2), (3, mI a3), (4, mI a4)]) (r := []) rfl (Or.inl rfl)).trans ?_
    refine mi_bdc fun q3 => ?_
    exact mx_ret rfl rfl
  refine mi_swc (F := fun tg => mi_ex mi_pI 3 tg (mi_jmp 3 tg [(0, mR 0 j 0), (1, mI a1), (2, mI a2), (3, mI a3), (4, mI a4)]) [] M) (k := 109) rfl ?_ ?_
  · show mi_ex mi_pI 3 148 [(0, mR 0 j 0), (1, mI a1), (2, mI a2), (3, mI a3), (4, mI a4)] [] M = _
    refine (mx_steps 1 (pc' := 151) (ls' := [(0, mR 0 j 0), (1, mI a1), (2, mI a2), (3, mI a3), (4, mI a4)]) (st' := [mI ((-1002))]) (M' := M) rfl).trans ?_
    exact mx_ret rfl rfl
  refine mi_swc (F := fun tg => mi_ex mi_pI 3 tg (mi_jmp 3 tg [(0, mR 0 j 0), (1, mI a1), (2, mI a2), (3, mI a3), (4, mI a4)]) [] M) (k := 110) rfl ?_ ?_
  · show mi_ex mi_pI 3 92 [(0, mR 0 j 0), (1, mI a1), (2, mI a2), (3, mI a3), (4, mI a4)] [] M = _
    refine (mx_steps 3 (pc' := 95) (ls' := [(0, mR 0 j 0), (1, mI a1), (2, mI a2), (3, mI a3), (4, mI a4)]) (st' := [mI a3, mI a2, mR 0 j 0]) (M' := M) rfl).trans ?_
    refine (mx_callI (z := 4) (as := [mR 0 j 0, mI a2, mI a3]) (pc' := 98) (ls' := [(0, mR 0 j 0), (1, mI a1), (2, mI a2), (3, mI a3), (4, mI a4)]) (r := []) rfl (Or.inl rfl)).trans ?_
    refine mi_bdc fun q4 => ?_
    exact mx_ret rfl rfl
  refine mi_swc (F := fun tg => mi_ex mi_pI 3 tg (mi_jmp 3 tg [(0, mR 0 j 0), (1, mI a1), (2, mI a2), (3, mI a3), (4, mI a4)]) [] M) (k := 111) rfl ?_ ?_
  · show mi_ex mi_pI 3 108 [(0, mR 0 j 0), (1, mI a1), (2, mI a2), (3, mI a3), (4, mI a4)] [] M = _
    refine (mx_steps 4 (pc' := 113) (ls' := [(0, mR 0 j 0), (1, mI a1), (2, mI a2), (3, mI a3), (4, mI a4)]) (st' := [mI a4, mI a3, mI a2, mR 0 j 0]) (M' := M) rfl).trans ?_
    refine (mx_callI (z := 6) (as := [mR 0 j 0, mI a2, mI a3, mI a4]) (pc' := 116) (ls' := [(0, mR 0 j 0), (1, mI a1), (2, mI a2), (3, mI a3), (4, mI a4)]) (r := []) rfl (Or.inl rfl)).trans ?_
    refine mi_bdc fun q5 => ?_
    exact mx_ret rfl rfl
  refine mi_swc (F := fun tg => mi_ex mi_pI 3 tg (mi_jmp 3 tg [(0, mR 0 j 0), (1, mI a1), (2, mI a2), (3, mI a3), (4, mI a4)]) [] M) (k := 112) rfl ?_ ?_
  · show mi_ex mi_pI 3 148 [(0, mR 0 j 0), (1, mI a1), (2, mI a2), (3, mI a3), (4, mI a4)] [] M = _
    refine (mx_steps 1 (pc' := 151) (ls' := [(0, mR 0 j 0), (1, mI a1), (2, mI a2), (3, mI a3), (4, mI a4)]) (st' := [mI ((-1002))]) (M' := M) rfl).trans ?_
    exact mx_ret rfl rfl
  refine mi_swc (F := fun tg => mi_ex mi_pI 3 tg (mi_jmp 3 tg [(0, mR 0 j 0), (1, mI a1), (2, mI a2), (3, mI a3), (4, mI a4)]) [] M) (k := 113) rfl ?_ ?_
  · show mi_ex mi_pI 3 148 [(0, mR 0 j 0), (1, mI a1), (2, mI a2), (3, mI a3), (4, mI a4)] [] M = _
    refine (mx_steps 1 (pc' := 151) (ls' := [(0, mR 0 j 0), (1, mI a1), (2, mI a2), (3, mI a3), (4, mI a4)]) (st' := [mI ((-1002))]) (M' := M) rfl).trans ?_
    exact mx_ret rfl rfl
  refine mi_swc (F := fun tg => mi_ex mi_pI 3 tg (mi_jmp 3 tg [(0, mR 0 j 0), (1, mI a1), (2, mI a2), (3, mI a3), (4, mI a4)]) [] M) (k := 114) rfl ?_ ?_
  · show mi_ex mi_pI 3 148 [(0, mR 0 j 0), (1, mI a1), (2, mI a2), (3, mI a3), (4, mI a4)] [] M = _
    refine (mx_steps 1 (pc' := 151) (ls' := [(0, mR 0 j 0), (1, mI a1), (2, mI a2), (3, mI a3), (4, mI a4)]) (st' := [mI ((-1002))]) (M' := M) rfl).trans ?_
    exact mx_ret rfl rfl
  refine mi_swc (F := fun tg => mi_ex mi_pI 3 tg (mi_jmp 3 tg [(0, mR 0 j 0), (1, mI a1), (2, mI a2), (3, mI a3), (4, mI a4)]) [] M) (k := 115) rfl ?_ ?_
  · show mi_ex mi_pI 3 123 [(0, mR 0 j 0), (1, mI a1), (2, mI a2), (3, mI a3), (4, mI a4)] [] M = _
    refine (mx_steps 3 (pc' := 126) (ls' := [(0, mR 0 j 0), (1, mI a1), (2, mI a2), (3, mI a3), (4, mI a4)]) (st' := [mI a3, mI a2, mR 0 j 0]) (M' := M) rfl).trans ?_
    refine (mx_callI (z := 8) (as := [mR 0 j 0, mI a2, mI a3]) (pc' := 129) (ls' := [(0, mR 0 j 0), (1, mI a1), (2, mI a2), (3, mI a3), (4, mI a4)]) (r := []) rfl (Or.inl rfl)).trans ?_
    refine mi_bdc fun q6 => ?_
    exact mx_ret rfl rfl
  refine mi_swc (F := fun tg => mi_ex mi_pI 3 tg (mi_jmp 3 tg [(0, mR 0 j 0), (1, mI a1), (2, mI a2), (3, mI a3), (4, mI a4)]) [] M) (k := 116) rfl ?_ ?_
  · show mi_ex mi_pI 3 142 [(0, mR 0 j 0), (1, mI a1), (2, mI a2), (3, mI a3), (4, mI a4)] [] M = _
    refine (mx_steps 2 (pc' := 144) (ls' := [(0, mR 0 j 0), (1, mI a1), (2, mI a2), (3, mI a3), (4, mI a4)]) (st' := [mI a2, mR 0 j 0]) (M' := M) rfl).trans ?_
    refine (mx_callI (z := 11) (as := [mR 0 j 0, mI a2]) (pc' := 147) (ls' := [(0, mR 0 j 0), (1, mI a1), (2, mI a2), (3, mI a3), (4, mI a4)]) (r := []) rfl (Or.inl rfl)).trans ?_
    refine mi_bdc fun q7 => ?_
    exact mx_ret rfl rfl
  refine mi_swc (F := fun tg => mi_ex mi_pI 3 tg (mi_jmp 3 tg [(0, mR 0 j 0), (1, mI a1), (2, mI a2), (3, mI a3), (4, mI a4)]) [] M) (k := 117) rfl ?_ ?_
  · show mi_ex mi_pI 3 117 [(0, mR 0 j 0), (1, mI a1), (2, mI a2), (3, mI a3), (4, mI a4)] [] M = _
    refine (mx_steps 2 (pc' := 119) (ls' := [(0, mR 0 j 0), (1, mI a1), (2, mI a2), (3, mI a3), (4, mI a4)]) (st' := [mI a2, mR 0 j 0]) (M' := M) rfl).trans ?_
    refine (mx_callI (z := 7) (as := [mR 0 j 0, mI a2]) (pc' := 122) (ls' := [(0, mR 0 j 0), (1, mI a1), (2, mI a2), (3, mI a3), (4, mI a4)]) (r := []) rfl (Or.inl rfl)).trans ?_
    refine mi_bdc fun q8 => ?_
    exact mx_ret rfl rfl
  show mi_ex mi_pI 3 148 [(0, mR 0 j 0), (1, mI a1), (2, mI a2), (3, mI a3), (4, mI a4)] [] M = _
  refine (mx_steps 1 (pc' := 151) (ls' := [(0, mR 0 j 0), (1, mI a1), (2, mI a2), (3, mI a3), (4, mI a4)]) (st' := [mI ((-1002))]) (M' := M) rfl).trans ?_
  exact mx_ret rfl rfl

set_option maxRecDepth 20000 in
theorem fN_addNode_eq (j : Nat) (a1 : Int32) (a2 : Int32) (M : mM) : fN_addNode j a1 a2 M = (fN_isOwn a1 a2 M).bind fun q1 => (if ¬ q1.1 = 0 then (if (q1.2.1 0 j 4) < 6 then (mi_ix (q1.2.1 0 j 4) 6).bind fun k2 => (fN_startNode j k2 a1 a2 q1.2).bind fun M3 => some (((mi_set M3 0 j 4 ((M3.1 0 j 4) + 1)).1 0 j 4) - 1, mi_set M3 0 j 4 ((M3.1 0 j 4) + 1)) else some ((-1004), q1.2)) else some ((-1002), q1.2)) := by
  refine (mx_steps 2 (pc' := 2) (ls' := [(0, mR 0 j 0), (1, mI a1), (2, mI a2)]) (st' := [mI a2, mI a1]) (M' := M) rfl).trans ?_
  refine (mx_callI (z := 12) (as := [mI a1, mI a2]) (pc' := 5) (ls' := [(0, mR 0 j 0), (1, mI a1), (2, mI a2)]) (r := []) rfl (Or.inr rfl)).trans ?_
  refine mi_bdc fun q1 => ?_
  refine (mx_if (c := ¬ q1.1 = 0) (p1 := 12) (l1 := [(0, mR 0 j 0), (1, mI a1), (2, mI a2)]) (s1 := []) (M1 := q1.2) (p2 := 8) (l2 := [(0, mR 0 j 0), (1, mI a1), (2, mI a2)]) (s2 := []) (M2 := q1.2) rfl).trans ?_
  refine mi_itc ?_ ?_
  · refine (mx_steps 3 (pc' := 18) (ls' := [(0, mR 0 j 0), (1, mI a1), (2, mI a2)]) (st' := [mI 6, mI (q1.2.1 0 j 4)]) (M' := q1.2) rfl).trans ?_
    refine (mx_if (c := (q1.2.1 0 j 4) < 6) (p1 := 25) (l1 := [(0, mR 0 j 0), (1, mI a1), (2, mI a2)]) (s1 := []) (M1 := q1.2) (p2 := 21) (l2 := [(0, mR 0 j 0), (1, mI a1), (2, mI a2)]) (s2 := []) (M2 := q1.2) rfl).trans ?_
    refine mi_itc ?_ ?_
    · refine (mx_steps 4 (pc' := 33) (ls' := [(0, mR 0 j 0), (1, mI a1), (2, mI a2)]) (st' := [mI (q1.2.1 0 j 4), mR 11 j 0]) (M' := q1.2) rfl).trans ?_
      refine (mx_ix (i := q1.2.1 0 j 4) (n := 6) (pc' := 34) (ls' := [(0, mR 0 j 0), (1, mI a1), (2, mI a2)]) (sf := fun k2 => [mR 12 j k2]) (Mf := fun k2 => q1.2) rfl).trans ?_
      refine mi_bdc fun k2 => ?_
      refine (mx_steps 2 (pc' := 36) (ls' := [(0, mR 0 j 0), (1, mI a1), (2, mI a2)]) (st' := [mI a2, mI a1, mR 12 j k2]) (M' := q1.2) rfl).trans ?_
      refine (mx_callV (z := 13) (as := [mR 12 j k2, mI a1, mI a2]) (pc' := 39) (ls' := [(0, mR 0 j 0), (1, mI a1), (2, mI a2)]) (r := []) rfl rfl).trans ?_
      refine mi_bdc fun M3 => ?_
      refine (mx_steps 10 (pc' := 55) (ls' := [(0, mR 0 j 0), (1, mI a1), (2, mI a2)]) (st' := [mI (((mi_set M3 0 j 4 ((M3.1 0 j 4) + 1)).1 0 j 4) - 1)]) (M' := mi_set M3 0 j 4 ((M3.1 0 j 4) + 1)) rfl).trans ?_
      exact mx_ret rfl rfl
    · refine (mx_steps 1 (pc' := 24) (ls' := [(0, mR 0 j 0), (1, mI a1), (2, mI a2)]) (st' := [mI ((-1004))]) (M' := q1.2) rfl).trans ?_
      exact mx_ret rfl rfl
  · refine (mx_steps 1 (pc' := 11) (ls' := [(0, mR 0 j 0), (1, mI a1), (2, mI a2)]) (st' := [mI ((-1002))]) (M' := q1.2) rfl).trans ?_
    exact mx_ret rfl rfl

set_option maxRecDepth 20000 in
theorem fN_addLink_eq (j : Nat) (a1 : Int32) (a2 : Int32) (a3 : Int32) (M : mM) : fN_addLink j a1 a2 a3 M = (fN_hasNode j a1 M).bind fun q1 => (if q1.1 = 0 then some ((-1002), q1.2) else (fN_hasNode j a2 q1.2).bind fun q2 => (if q2.1 = 0 then some ((-1002), q2.2) else (if a1 = a2 then some ((-1002), q2.2) else (fX_isWithin a3 0 9 q2.2).bind fun q3 => (if ¬ q3.1 = 0 then (if (q3.2.1 0 j 5) < 10 then (mi_ix (q3.2.1 0 j 5) 10).bind fun k4 => (mi_ix 0 10).bind fun k5 => (mi_ix 1 10).bind fun k6 => (mi_ix 2 10).bind fun k7 => (mi_ix 3 10).bind fun k8 => (mi_ix 0 3).bind fun k9 => (fN_startStore j k4 ((mi_set (mi_set (mi_set (mi_set q3.2 0 j (54 + 10 * k4 + k5) a1) 0 j (54 + 10 * k4 + k6) a2) 0 j (54 + 10 * k4 + k7) a3) 0 j (54 + 10 * k4 + k8) 1).1 0 j (0 + k9)) (mi_set (mi_set (mi_set (mi_set q3.2 0 j (54 + 10 * k4 + k5) a1) 0 j (54 + 10 * k4 + k6) a2) 0 j (54 + 10 * k4 + k7) a3) 0 j (54 + 10 * k4 + k8) 1)).bind fun M10 => some (((mi_set M10 0 j 5 ((M10.1 0 j 5) + 1)).1 0 j 5) - 1, mi_set M10 0 j 5 ((M10.1 0 j 5) + 1)) else some ((-1004), q3.2)) else some ((-1002), q3.2))))) := by
  refine (mx_steps 2 (pc' := 2) (ls' := [(0, mR 0 j 0), (1, mI a1), (2, mI a2), (3, mI a3)]) (st' := [mI a1, mR 0 j 0]) (M' := M) rfl).trans ?_
  refine (mx_callI (z := 1) (as := [mR 0 j 0, mI a1]) (pc' := 5) (ls' := [(0, mR 0 j 0), (1, mI a1), (2, mI a2), (3, mI a3)]) (r := []) rfl (Or.inr rfl)).trans ?_
  refine mi_bdc fun q1 => ?_
  refine (mx_if (c := q1.1 = 0) (p1 := 31) (l1 := [(0, mR 0 j 0), (1, mI a1), (2, mI a2), (3, mI a3)]) (s1 := []) (M1 := q1.2) (p2 := 8) (l2 := [(0, mR 0 j 0), (1, mI a1), (2, mI a2), (3, mI a3)]) (s2 := []) (M2 := q1.2) rfl).trans ?_
  refine mi_itc ?_ ?_
  · refine (mx_steps 1 (pc' := 34) (ls' := [(0, mR 0 j 0), (1, mI a1), (2, mI a2), (3, mI a3)]) (st' := [mI ((-1002))]) (M' := q1.2) rfl).trans ?_
    exact mx_ret rfl rfl
  · refine (mx_steps 2 (pc' := 10) (ls' := [(0, mR 0 j 0), (1, mI a1), (2, mI a2), (3, mI a3)]) (st' := [mI a2, mR 0 j 0]) (M' := q1.2) rfl).trans ?_
    refine (mx_callI (z := 1) (as := [mR 0 j 0, mI a2]) (pc' := 13) (ls' := [(0, mR 0 j 0), (1, mI a1), (2, mI a2), (3, mI a3)]) (r := []) rfl (Or.inr rfl)).trans ?_
    refine mi_bdc fun q2 => ?_
    refine (mx_if (c := q2.1 = 0) (p1 := 31) (l1 := [(0, mR 0 j 0), (1, mI a1), (2, mI a2), (3, mI a3)]) (s1 := []) (M1 := q2.2) (p2 := 16) (l2 := [(0, mR 0 j 0), (1, mI a1), (2, mI a2), (3, mI a3)]) (s2 := []) (M2 := q2.2) rfl).trans ?_
    refine mi_itc ?_ ?_
    · refine (mx_steps 1 (pc' := 34) (ls' := [(0, mR 0 j 0), (1, mI a1), (2, mI a2), (3, mI a3)]) (st' := [mI ((-1002))]) (M' := q2.2) rfl).trans ?_
      exact mx_ret rfl rfl
    · refine (mx_steps 2 (pc' := 18) (ls' := [(0, mR 0 j 0), (1, mI a1), (2, mI a2), (3, mI a3)]) (st' := [mI a2, mI a1]) (M' := q2.2) rfl).trans ?_
      refine (mx_if (c := a1 = a2) (p1 := 31) (l1 := [(0, mR 0 j 0), (1, mI a1), (2, mI a2), (3, mI a3)]) (s1 := []) (M1 := q2.2) (p2 := 21) (l2 := [(0, mR 0 j 0), (1, mI a1), (2, mI a2), (3, mI a3)]) (s2 := []) (M2 := q2.2) rfl).trans ?_
      refine mi_itc ?_ ?_
      · refine (mx_steps 1 (pc' := 34) (ls' := [(0, mR 0 j 0), (1, mI a1), (2, mI a2), (3, mI a3)]) (st' := [mI ((-1002))]) (M' := q2.2) rfl).trans ?_
        exact mx_ret rfl rfl
      · refine (mx_steps 3 (pc' := 25) (ls' := [(0, mR 0 j 0), (1, mI a1), (2, mI a2), (3, mI a3)]) (st' := [mI 9, mI 0, mI a3]) (M' := q2.2) rfl).trans ?_
        refine (mx_callI (z := 63) (as := [mI a3, mI 0, mI 9]) (pc' := 28) (ls' := [(0, mR 0 j 0), (1, mI a1), (2, mI a2), (3, mI a3)]) (r := []) rfl (Or.inr rfl)).trans ?_
        refine mi_bdc fun q3 => ?_
        refine (mx_if (c := ¬ q3.1 = 0) (p1 := 35) (l1 := [(0, mR 0 j 0), (1, mI a1), (2, mI a2), (3, mI a3)]) (s1 := []) (M1 := q3.2) (p2 := 31) (l2 := [(0, mR 0 j 0), (1, mI a1), (2, mI a2), (3, mI a3)]) (s2 := []) (M2 := q3.2) rfl).trans ?_
        refine mi_itc ?_ ?_
        · refine (mx_steps 3 (pc' := 41) (ls' := [(0, mR 0 j 0), (1, mI a1), (2, mI a2), (3, mI a3)]) (st' := [mI 10, mI (q3.2.1 0 j 5)]) (M' := q3.2) rfl).trans ?_
          refine (mx_if (c := (q3.2.1 0 j 5) < 10) (p1 := 48) (l1 := [(0, mR 0 j 0), (1, mI a1), (2, mI a2), (3, mI a3)]) (s1 := []) (M1 := q3.2) (p2 := 44) (l2 := [(0, mR 0 j 0), (1, mI a1), (2, mI a2), (3, mI a3)]) (s2 := []) (M2 := q3.2) rfl).trans ?_
          refine mi_itc ?_ ?_
          · refine (mx_steps 4 (pc' := 56) (ls' := [(0, mR 0 j 0), (1, mI a1), (2, mI a2), (3, mI a3)]) (st' := [mI (q3.2.1 0 j 5), mR 13 j 0]) (M' := q3.2) rfl).trans ?_
            refine (mx_ix (i := q3.2.1 0 j 5) (n := 10) (pc' := 57) (ls' := [(0, mR 0 j 0), (1, mI a1), (2, mI a2), (3, mI a3)]) (sf := fun k4 => [mR 14 j k4]) (Mf := fun k4 => q3.2) rfl).trans ?_
            refine mi_bdc fun k4 => ?_
            refine (mx_steps 4 (pc' := 63) (ls' := [(0, mR 0 j 0), (1, mI a1), (2, mI a2), (3, mI a3), (4, mR 14 j k4)]) (st' := [mI a1, mI 0, mR 14 j k4]) (M' := q3.2) rfl).trans ?_
            refine (mx_ix (i := 0) (n := 10) (pc' := 64) (ls' := [(0, mR 0 j 0), (1, mI a1), (2, mI a2), (3, mI a3), (4, mR 14 j k4)]) (sf := fun k5 => []) (Mf := fun k5 => mi_set q3.2 0 j (54 + 10 * k4 + k5) a1) rfl).trans ?_
            refine mi_bdc fun k5 => ?_
            refine (mx_steps 3 (pc' := 68) (ls' := [(0, mR 0 j 0), (1, mI a1), (2, mI a2), (3, mI a3), (4, mR 14 j k4)]) (st' := [mI a2, mI 1, mR 14 j k4]) (M' := mi_set q3.2 0 j (54 + 10 * k4 + k5) a1) rfl).trans ?_
            refine (mx_ix (i := 1) (n := 10) (pc' := 69) (ls' := [(0, mR 0 j 0), (1, mI a1), (2, mI a2), (3, mI a3), (4, mR 14 j k4)]) (sf := fun k6 => []) (Mf := fun k6 => mi_set (mi_set q3.2 0 j (54 + 10 * k4 + k5) a1) 0 j (54 + 10 * k4 + k6) a2) rfl).trans ?_
            refine mi_bdc fun k6 => ?_
            refine (mx_steps 3 (pc' := 73) (ls' := [(0, mR 0 j 0), (1, mI a1), (2, mI a2), (3, mI a3), (4, mR 14 j k4)]) (st' := [mI a3, mI 2, mR 14 j k4]) (M' := mi_set (mi_set q3.2 0 j (54 + 10 * k4 + k5) a1) 0 j (54 + 10 * k4 + k6) a2) rfl).trans ?_
            refine (mx_ix (i := 2) (n := 10) (pc' := 74) (ls' := [(0, mR 0 j 0), (1, mI a1), (2, mI a2), (3, mI a3), (4, mR 14 j k4)]) (sf := fun k7 => []) (Mf := fun k7 => mi_set (mi_set (mi_set q3.2 0 j (54 + 10 * k4 + k5) a1) 0 j (54 + 10 * k4 + k6) a2) 0 j (54 + 10 * k4 + k7) a3) rfl).trans ?_
            refine mi_bdc fun k7 => ?_
            refine (mx_steps 3 (pc' := 78) (ls' := [(0, mR 0 j 0), (1, mI a1), (2, mI a2), (3, mI a3), (4, mR 14 j k4)]) (st' := [mI 1, mI 3, mR 14 j k4]) (M' := mi_set (mi_set (mi_set q3.2 0 j (54 + 10 * k4 + k5) a1) 0 j (54 + 10 * k4 + k6) a2) 0 j (54 + 10 * k4 + k7) a3) rfl).trans ?_
            refine (mx_ix (i := 3) (n := 10) (pc' := 79) (ls' := [(0, mR 0 j 0), (1, mI a1), (2, mI a2), (3, mI a3), (4, mR 14 j k4)]) (sf := fun k8 => []) (Mf := fun k8 => mi_set (mi_set (mi_set (mi_set q3.2 0 j (54 + 10 * k4 + k5) a1) 0 j (54 + 10 * k4 + k6) a2) 0 j (54 + 10 * k4 + k7) a3) 0 j (54 + 10 * k4 + k8) 1) rfl).trans ?_
            refine mi_bdc fun k8 => ?_
            refine (mx_steps 4 (pc' := 86) (ls' := [(0, mR 0 j 0), (1, mI a1), (2, mI a2), (3, mI a3), (4, mR 14 j k4)]) (st' := [mI 0, mR 15 j 0, mR 14 j k4]) (M' := mi_set (mi_set (mi_set (mi_set q3.2 0 j (54 + 10 * k4 + k5) a1) 0 j (54 + 10 * k4 + k6) a2) 0 j (54 + 10 * k4 + k7) a3) 0 j (54 + 10 * k4 + k8) 1) rfl).trans ?_
            refine (mx_ix (i := 0) (n := 3) (pc' := 87) (ls' := [(0, mR 0 j 0), (1, mI a1), (2, mI a2), (3, mI a3), (4, mR 14 j k4)]) (sf := fun k9 => [mI ((mi_set (mi_set (mi_set (mi_set q3.2 0 j (54 + 10 * k4 + k5) a1) 0 j (54 + 10 * k4 + k6) a2) 0 j (54 + 10 * k4 + k7) a3) 0 j (54 + 10 * k4 + k8) 1).1 0 j (0 + k9)), mR 14 j k4]) (Mf := fun k9 => mi_set (mi_set (mi_set (mi_set q3.2 0 j (54 + 10 * k4 + k5) a1) 0 j (54 + 10 * k4 + k6) a2) 0 j (54 + 10 * k4 + k7) a3) 0 j (54 + 10 * k4 + k8) 1) rfl).trans ?_
            refine mi_bdc fun k9 => ?_
            refine (mx_callV (z := 14) (as := [mR 14 j k4, mI ((mi_set (mi_set (mi_set (mi_set q3.2 0 j (54 + 10 * k4 + k5) a1) 0 j (54 + 10 * k4 + k6) a2) 0 j (54 + 10 * k4 + k7) a3) 0 j (54 + 10 * k4 + k8) 1).1 0 j (0 + k9))]) (pc' := 90) (ls' := [(0, mR 0 j 0), (1, mI a1), (2, mI a2), (3, mI a3), (4, mR 14 j k4)]) (r := []) rfl rfl).trans ?_
            refine mi_bdc fun M10 => ?_
            refine (mx_steps 10 (pc' := 106) (ls' := [(0, mR 0 j 0), (1, mI a1), (2, mI a2), (3, mI a3), (4, mR 14 j k4)]) (st' := [mI (((mi_set M10 0 j 5 ((M10.1 0 j 5) + 1)).1 0 j 5) - 1)]) (M' := mi_set M10 0 j 5 ((M10.1 0 j 5) + 1)) rfl).trans ?_
            exact mx_ret rfl rfl
          · refine (mx_steps 1 (pc' := 47) (ls' := [(0, mR 0 j 0), (1, mI a1), (2, mI a2), (3, mI a3)]) (st' := [mI ((-1004))]) (M' := q3.2) rfl).trans ?_
            exact mx_ret rfl rfl
        · refine (mx_steps 1 (pc' := 34) (ls' := [(0, mR 0 j 0), (1, mI a1), (2, mI a2), (3, mI a3)]) (st' := [mI ((-1002))]) (M' := q3.2) rfl).trans ?_
          exact mx_ret rfl rfl

set_option maxRecDepth 20000 in
theorem fN_tellOwn_eq (j : Nat) (a1 : Int32) (a2 : Int32) (a3 : Int32) (M : mM) : fN_tellOwn j a1 a2 a3 M = (fN_hasNode j a1 M).bind fun q1 => (if q1.1 = 0 then some ((-1002), q1.2) else (fN_isOwn a2 a3 q1.2).bind fun q2 => (if ¬ q2.1 = 0 then (mi_ix a1 6).bind fun k3 => (fN_startNode j k3 a2 a3 q2.2).bind fun M4 => fN_tellOwn_L37 j a1 0 0 M4 else some ((-1002), q2.2))) := by
  refine (mx_steps 2 (pc' := 2) (ls' := [(0, mR 0 j 0), (1, mI a1), (2, mI a2), (3, mI a3)]) (st' := [mI a1, mR 0 j 0]) (M' := M) rfl).trans ?_
  refine (mx_callI (z := 1) (as := [mR 0 j 0, mI a1]) (pc' := 5) (ls' := [(0, mR 0 j 0), (1, mI a1), (2, mI a2), (3, mI a3)]) (r := []) rfl (Or.inr rfl)).trans ?_
  refine mi_bdc fun q1 => ?_
  refine (mx_if (c := q1.1 = 0) (p1 := 16) (l1 := [(0, mR 0 j 0), (1, mI a1), (2, mI a2), (3, mI a3)]) (s1 := []) (M1 := q1.2) (p2 := 8) (l2 := [(0, mR 0 j 0), (1, mI a1), (2, mI a2), (3, mI a3)]) (s2 := []) (M2 := q1.2) rfl).trans ?_
  refine mi_itc ?_ ?_
  · refine (mx_steps 1 (pc' := 19) (ls' := [(0, mR 0 j 0), (1, mI a1), (2, mI a2), (3, mI a3)]) (st' := [mI ((-1002))]) (M' := q1.2) rfl).trans ?_
    exact mx_ret rfl rfl
  · refine (mx_steps 2 (pc' := 10) (ls' := [(0, mR 0 j 0), (1, mI a1), (2, mI a2), (3, mI a3)]) (st' := [mI a3, mI a2]) (M' := q1.2) rfl).trans ?_
    refine (mx_callI (z := 12) (as := [mI a2, mI a3]) (pc' := 13) (ls' := [(0, mR 0 j 0), (1, mI a1), (2, mI a2), (3, mI a3)]) (r := []) rfl (Or.inr rfl)).trans ?_
    refine mi_bdc fun q2 => ?_
    refine (mx_if (c := ¬ q2.1 = 0) (p1 := 20) (l1 := [(0, mR 0 j 0), (1, mI a1), (2, mI a2), (3, mI a3)]) (s1 := []) (M1 := q2.2) (p2 := 16) (l2 := [(0, mR 0 j 0), (1, mI a1), (2, mI a2), (3, mI a3)]) (s2 := []) (M2 := q2.2) rfl).trans ?_
    refine mi_itc ?_ ?_
    · refine (mx_steps 3 (pc' := 25) (ls' := [(0, mR 0 j 0), (1, mI a1), (2, mI a2), (3, mI a3)]) (st' := [mI a1, mR 11 j 0]) (M' := q2.2) rfl).trans ?_
      refine (mx_ix (i := a1) (n := 6) (pc' := 26) (ls' := [(0, mR 0 j 0), (1, mI a1), (2, mI a2), (3, mI a3)]) (sf := fun k3 => [mR 12 j k3]) (Mf := fun k3 => q2.2) rfl).trans ?_
      refine mi_bdc fun k3 => ?_
      refine (mx_steps 2 (pc' := 28) (ls' := [(0, mR 0 j 0), (1, mI a1), (2, mI a2), (3, mI a3)]) (st' := [mI a3, mI a2, mR 12 j k3]) (M' := q2.2) rfl).trans ?_
      refine (mx_callV (z := 13) (as := [mR 12 j k3, mI a2, mI a3]) (pc' := 31) (ls' := [(0, mR 0 j 0), (1, mI a1), (2, mI a2), (3, mI a3)]) (r := []) rfl rfl).trans ?_
      refine mi_bdc fun M4 => ?_
      refine (mx_steps 4 (pc' := 37) (ls' := [(0, mR 0 j 0), (1, mI a1), (4, mI 0), (5, mI 0)]) (st' := []) (M' := M4) rfl).trans ?_
      rfl
    · refine (mx_steps 1 (pc' := 19) (ls' := [(0, mR 0 j 0), (1, mI a1), (2, mI a2), (3, mI a3)]) (st' := [mI ((-1002))]) (M' := q2.2) rfl).trans ?_
      exact mx_ret rfl rfl

set_option maxRecDepth 20000 in
theorem fN_tellOwn_L37_eq (j : Nat) (v1 : Int32) (v4 : Int32) (v5 : Int32) (M : mM) : fN_tellOwn_L37 j v1 v4 v5 M = (if (M.1 0 j 4) ≤ v5 then some (v4, M) else (fN_nodeAhead j v5 M).bind fun q1 => (if ¬ q1.1 = v1 then fN_tellOwn_L37 j v1 v4 (v5 + 1) q1.2 else fN_tellOwn_L37 j v1 (v4 + 1) (v5 + 1) q1.2)) := by
  refine (mx_steps 3 (pc' := 43) (ls' := [(0, mR 0 j 0), (1, mI v1), (4, mI v4), (5, mI v5)]) (st' := [mI (M.1 0 j 4), mI v5]) (M' := M) rfl).trans ?_
  refine (mx_if (c := (M.1 0 j 4) ≤ v5) (p1 := 65) (l1 := [(0, mR 0 j 0), (1, mI v1), (4, mI v4), (5, mI v5)]) (s1 := []) (M1 := M) (p2 := 46) (l2 := [(0, mR 0 j 0), (1, mI v1), (4, mI v4), (5, mI v5)]) (s2 := []) (M2 := M) rfl).trans ?_
  refine mi_itc ?_ ?_
  · refine (mx_steps 1 (pc' := 67) (ls' := [(0, mR 0 j 0), (1, mI v1), (4, mI v4), (5, mI v5)]) (st' := [mI v4]) (M' := M) rfl).trans ?_
    exact mx_ret rfl rfl
  · refine (mx_steps 2 (pc' := 49) (ls' := [(0, mR 0 j 0), (1, mI v1), (4, mI v4), (5, mI v5)]) (st' := [mI v5, mR 0 j 0]) (M' := M) rfl).trans ?_
    refine (mx_callI (z := 15) (as := [mR 0 j 0, mI v5]) (pc' := 52) (ls' := [(0, mR 0 j 0), (1, mI v1), (4, mI v4), (5, mI v5)]) (r := []) rfl (Or.inl rfl)).trans ?_
    refine mi_bdc fun q1 => ?_
    refine (mx_steps 1 (pc' := 53) (ls' := [(0, mR 0 j 0), (1, mI v1), (4, mI v4), (5, mI v5)]) (st' := [mI v1, mI q1.1]) (M' := q1.2) rfl).trans ?_
    refine (mx_if (c := ¬ q1.1 = v1) (p1 := 59) (l1 := [(0, mR 0 j 0), (1, mI v1), (4, mI v4), (5, mI v5)]) (s1 := []) (M1 := q1.2) (p2 := 56) (l2 := [(0, mR 0 j 0), (1, mI v1), (4, mI v4), (5, mI v5)]) (s2 := []) (M2 := q1.2) rfl).trans ?_
    refine mi_itc ?_ ?_
    · refine (mx_steps 2 (pc' := 37) (ls' := [(0, mR 0 j 0), (1, mI v1), (4, mI v4), (5, mI (v5 + 1))]) (st' := []) (M' := q1.2) rfl).trans ?_
      rfl
    · refine (mx_steps 3 (pc' := 37) (ls' := [(0, mR 0 j 0), (1, mI v1), (4, mI (v4 + 1)), (5, mI (v5 + 1))]) (st' := []) (M' := q1.2) rfl).trans ?_
      rfl

set_option maxRecDepth 20000 in
theorem fN_turnLink_eq (j : Nat) (a1 : Int32) (M : mM) : fN_turnLink j a1 M = (fN_hasLink j a1 M).bind fun q1 => (if ¬ q1.1 = 0 then (mi_ix a1 10).bind fun k2 => (mi_ix a1 10).bind fun k3 => (mi_ix 3 10).bind fun k4 => (mi_ix 3 10).bind fun k5 => (mi_ix a1 10).bind fun k6 => (mi_ix 3 10).bind fun k7 => some ((mi_set q1.2 0 j (54 + 10 * k2 + k5) (1 - (q1.2.1 0 j (54 + 10 * k3 + k4)))).1 0 j (54 + 10 * k6 + k7), mi_set q1.2 0 j (54 + 10 * k2 + k5) (1 - (q1.2.1 0 j (54 + 10 * k3 + k4)))) else some ((-1002), q1.2)) := by
  refine (mx_steps 2 (pc' := 2) (ls' := [(0, mR 0 j 0), (1, mI a1)]) (st' := [mI a1, mR 0 j 0]) (M' := M) rfl).trans ?_
  refine (mx_callI (z := 2) (as := [mR 0 j 0, mI a1]) (pc' := 5) (ls' := [(0, mR 0 j 0), (1, mI a1)]) (r := []) rfl (Or.inr rfl)).trans ?_
  refine mi_bdc fun q1 => ?_
  refine (mx_if (c := ¬ q1.1 = 0) (p1 := 12) (l1 := [(0, mR 0 j 0), (1, mI a1)]) (s1 := []) (M1 := q1.2) (p2 := 8) (l2 := [(0, mR 0 j 0), (1, mI a1)]) (s2 := []) (M2 := q1.2) rfl).trans ?_
  refine mi_itc ?_ ?_
  · refine (mx_steps 3 (pc' := 17) (ls' := [(0, mR 0 j 0), (1, mI a1)]) (st' := [mI a1, mR 13 j 0]) (M' := q1.2) rfl).trans ?_
    refine (mx_ix (i := a1) (n := 10) (pc' := 18) (ls' := [(0, mR 0 j 0), (1, mI a1)]) (sf := fun k2 => [mR 14 j k2]) (Mf := fun k2 => q1.2) rfl).trans ?_
    refine mi_bdc fun k2 => ?_
    refine (mx_steps 5 (pc' := 25) (ls' := [(0, mR 0 j 0), (1, mI a1)]) (st' := [mI a1, mR 13 j 0, mI 1, mI 3, mR 14 j k2]) (M' := q1.2) rfl).trans ?_
    refine (mx_ix (i := a1) (n := 10) (pc' := 26) (ls' := [(0, mR 0 j 0), (1, mI a1)]) (sf := fun k3 => [mR 14 j k3, mI 1, mI 3, mR 14 j k2]) (Mf := fun k3 => q1.2) rfl).trans ?_
    refine mi_bdc fun k3 => ?_
    refine (mx_steps 1 (pc' := 27) (ls' := [(0, mR 0 j 0), (1, mI a1)]) (st' := [mI 3, mR 14 j k3, mI 1, mI 3, mR 14 j k2]) (M' := q1.2) rfl).trans ?_
    refine (mx_ix (i := 3) (n := 10) (pc' := 28) (ls' := [(0, mR 0 j 0), (1, mI a1)]) (sf := fun k4 => [mI (q1.2.1 0 j (54 + 10 * k3 + k4)), mI 1, mI 3, mR 14 j k2]) (Mf := fun k4 => q1.2) rfl).trans ?_
    refine mi_bdc fun k4 => ?_
    refine (mx_steps 1 (pc' := 29) (ls' := [(0, mR 0 j 0), (1, mI a1)]) (st' := [mI (1 - (q1.2.1 0 j (54 + 10 * k3 + k4))), mI 3, mR 14 j k2]) (M' := q1.2) rfl).trans ?_
    refine (mx_ix (i := 3) (n := 10) (pc' := 30) (ls' := [(0, mR 0 j 0), (1, mI a1)]) (sf := fun k5 => []) (Mf := fun k5 => mi_set q1.2 0 j (54 + 10 * k2 + k5) (1 - (q1.2.1 0 j (54 + 10 * k3 + k4)))) rfl).trans ?_
    refine mi_bdc fun k5 => ?_
    refine (mx_steps 3 (pc' := 35) (ls' := [(0, mR 0 j 0), (1, mI a1)]) (st' := [mI a1, mR 13 j 0]) (M' := mi_set q1.2 0 j (54 + 10 * k2 + k5) (1 - (q1.2.1 0 j (54 + 10 * k3 + k4)))) rfl).trans ?_
    refine (mx_ix (i := a1) (n := 10) (pc' := 36) (ls' := [(0, mR 0 j 0), (1, mI a1)]) (sf := fun k6 => [mR 14 j k6]) (Mf := fun k6 => mi_set q1.2 0 j (54 + 10 * k2 + k5) (1 - (q1.2.1 0 j (54 + 10 * k3 + k4)))) rfl).trans ?_
    refine mi_bdc fun k6 => ?_
    refine (mx_steps 1 (pc' := 37) (ls' := [(0, mR 0 j 0), (1, mI a1)]) (st' := [mI 3, mR 14 j k6]) (M' := mi_set q1.2 0 j (54 + 10 * k2 + k5) (1 - (q1.2.1 0 j (54 + 10 * k3 + k4)))) rfl).trans ?_
    refine (mx_ix (i := 3) (n := 10) (pc' := 38) (ls' := [(0, mR 0 j 0), (1, mI a1)]) (sf := fun k7 => [mI ((mi_set q1.2 0 j (54 + 10 * k2 + k5) (1 - (q1.2.1 0 j (54 + 10 * k3 + k4)))).1 0 j (54 + 10 * k6 + k7))]) (Mf := fun k7 => mi_set q1.2 0 j (54 + 10 * k2 + k5) (1 - (q1.2.1 0 j (54 + 10 * k3 + k4)))) rfl).trans ?_
    refine mi_bdc fun k7 => ?_
    exact mx_ret rfl rfl
  · refine (mx_steps 1 (pc' := 11) (ls' := [(0, mR 0 j 0), (1, mI a1)]) (st' := [mI ((-1002))]) (M' := q1.2) rfl).trans ?_
    exact mx_ret rfl rfl

set_option maxRecDepth 20000 in
theorem fN_tellSetting_eq (j : Nat) (a1 : Int32) (a2 : Int32) (M : mM) : fN_tellSetting j a1 a2 M = (fX_isWithin a1 0 2 M).bind fun q1 => (if q1.1 = 0 then some ((-1002), q1.2) else (mi_ix a1 3).bind fun k2 => (mi_ix a1 3).bind fun k3 => (fX_isWithin a2 (mi_c60 k2) (mi_c61 k3) q1.2).bind fun q4 => (if ¬ q4.1 = 0 then (mi_ix a1 3).bind fun k5 => (mi_ix a1 3).bind fun k6 => (if ¬ a1 = 0 then some (q4.2.1 0 j (0 + k5), mi_set q4.2 0 j (0 + k6) a2) else fN_tellSetting_L51 j a2 (q4.2.1 0 j (0 + k5)) 0 (mi_set q4.2 0 j (0 + k6) a2)) else some ((-1002), q4.2))) := by
  refine (mx_steps 3 (pc' := 3) (ls' := [(0, mR 0 j 0), (1, mI a1), (2, mI a2)]) (st' := [mI 2, mI 0, mI a1]) (M' := M) rfl).trans ?_
  refine (mx_callI (z := 63) (as := [mI a1, mI 0, mI 2]) (pc' := 6) (ls' := [(0, mR 0 j 0), (1, mI a1), (2, mI a2)]) (r := []) rfl (Or.inr rfl)).trans ?_
  refine mi_bdc fun q1 => ?_
  refine (mx_if (c := q1.1 = 0) (p1 := 26) (l1 := [(0, mR 0 j 0), (1, mI a1), (2, mI a2)]) (s1 := []) (M1 := q1.2) (p2 := 9) (l2 := [(0, mR 0 j 0), (1, mI a1), (2, mI a2)]) (s2 := []) (M2 := q1.2) rfl).trans ?_
  refine mi_itc ?_ ?_
  · refine (mx_steps 1 (pc' := 29) (ls' := [(0, mR 0 j 0), (1, mI a1), (2, mI a2)]) (st' := [mI ((-1002))]) (M' := q1.2) rfl).trans ?_
    exact mx_ret rfl rfl
  · refine (mx_steps 3 (pc' := 14) (ls' := [(0, mR 0 j 0), (1, mI a1), (2, mI a2)]) (st' := [mI a1, mR 60 0 0, mI a2]) (M' := q1.2) rfl).trans ?_
    refine (mx_ix (i := a1) (n := 3) (pc' := 15) (ls' := [(0, mR 0 j 0), (1, mI a1), (2, mI a2)]) (sf := fun k2 => [mI (mi_c60 k2), mI a2]) (Mf := fun k2 => q1.2) rfl).trans ?_
    refine mi_bdc fun k2 => ?_
    refine (mx_steps 2 (pc' := 19) (ls' := [(0, mR 0 j 0), (1, mI a1), (2, mI a2)]) (st' := [mI a1, mR 61 0 0, mI (mi_c60 k2), mI a2]) (M' := q1.2) rfl).trans ?_
    refine (mx_ix (i := a1) (n := 3) (pc' := 20) (ls' := [(0, mR 0 j 0), (1, mI a1), (2, mI a2)]) (sf := fun k3 => [mI (mi_c61 k3), mI (mi_c60 k2), mI a2]) (Mf := fun k3 => q1.2) rfl).trans ?_
    refine mi_bdc fun k3 => ?_
    refine (mx_callI (z := 63) (as := [mI a2, mI (mi_c60 k2), mI (mi_c61 k3)]) (pc' := 23) (ls' := [(0, mR 0 j 0), (1, mI a1), (2, mI a2)]) (r := []) rfl (Or.inr rfl)).trans ?_
    refine mi_bdc fun q4 => ?_
    refine (mx_if (c := ¬ q4.1 = 0) (p1 := 30) (l1 := [(0, mR 0 j 0), (1, mI a1), (2, mI a2)]) (s1 := []) (M1 := q4.2) (p2 := 26) (l2 := [(0, mR 0 j 0), (1, mI a1), (2, mI a2)]) (s2 := []) (M2 := q4.2) rfl).trans ?_
    refine mi_itc ?_ ?_
    · refine (mx_steps 3 (pc' := 35) (ls' := [(0, mR 0 j 0), (1, mI a1), (2, mI a2)]) (st' := [mI a1, mR 15 j 0]) (M' := q4.2) rfl).trans ?_
      refine (mx_ix (i := a1) (n := 3) (pc' := 36) (ls' := [(0, mR 0 j 0), (1, mI a1), (2, mI a2)]) (sf := fun k5 => [mI (q4.2.1 0 j (0 + k5))]) (Mf := fun k5 => q4.2) rfl).trans ?_
      refine mi_bdc fun k5 => ?_
      refine (mx_steps 5 (pc' := 43) (ls' := [(0, mR 0 j 0), (1, mI a1), (2, mI a2), (3, mI (q4.2.1 0 j (0 + k5)))]) (st' := [mI a2, mI a1, mR 15 j 0]) (M' := q4.2) rfl).trans ?_
      refine (mx_ix (i := a1) (n := 3) (pc' := 44) (ls' := [(0, mR 0 j 0), (1, mI a1), (2, mI a2), (3, mI (q4.2.1 0 j (0 + k5)))]) (sf := fun k6 => []) (Mf := fun k6 => mi_set q4.2 0 j (0 + k6) a2) rfl).trans ?_
      refine mi_bdc fun k6 => ?_
      refine (mx_steps 1 (pc' := 45) (ls' := [(0, mR 0 j 0), (1, mI a1), (2, mI a2), (3, mI (q4.2.1 0 j (0 + k5)))]) (st' := [mI a1]) (M' := mi_set q4.2 0 j (0 + k6) a2) rfl).trans ?_
      refine (mx_if (c := ¬ a1 = 0) (p1 := 77) (l1 := [(0, mR 0 j 0), (1, mI a1), (2, mI a2), (3, mI (q4.2.1 0 j (0 + k5)))]) (s1 := []) (M1 := mi_set q4.2 0 j (0 + k6) a2) (p2 := 48) (l2 := [(0, mR 0 j 0), (1, mI a1), (2, mI a2), (3, mI (q4.2.1 0 j (0 + k5)))]) (s2 := []) (M2 := mi_set q4.2 0 j (0 + k6) a2) rfl).trans ?_
      refine mi_itc ?_ ?_
      · refine (mx_steps 1 (pc' := 78) (ls' := [(0, mR 0 j 0), (1, mI a1), (2, mI a2), (3, mI (q4.2.1 0 j (0 + k5)))]) (st' := [mI (q4.2.1 0 j (0 + k5))]) (M' := mi_set q4.2 0 j (0 + k6) a2) rfl).trans ?_
        exact mx_ret rfl rfl
      · refine (mx_steps 2 (pc' := 51) (ls' := [(0, mR 0 j 0), (2, mI a2), (3, mI (q4.2.1 0 j (0 + k5))), (4, mI 0)]) (st' := []) (M' := mi_set q4.2 0 j (0 + k6) a2) rfl).trans ?_
        rfl
    · refine (mx_steps 1 (pc' := 29) (ls' := [(0, mR 0 j 0), (1, mI a1), (2, mI a2)]) (st' := [mI ((-1002))]) (M' := q4.2) rfl).trans ?_
      exact mx_ret rfl rfl

set_option maxRecDepth 20000 in
theorem fN_tellSetting_L51_eq (j : Nat) (v2 : Int32) (v3 : Int32) (v4 : Int32) (M : mM) : fN_tellSetting_L51 j v2 v3 v4 M = (if (M.1 0 j 5) ≤ v4 then some (v3, M) else (mi_ix v4 10).bind fun k1 => (fN_startStore j k1 v2 M).bind fun M2 => fN_tellSetting_L51 j v2 v3 (v4 + 1) M2) := by
  refine (mx_steps 3 (pc' := 57) (ls' := [(0, mR 0 j 0), (2, mI v2), (3, mI v3), (4, mI v4)]) (st' := [mI (M.1 0 j 5), mI v4]) (M' := M) rfl).trans ?_
  refine (mx_if (c := (M.1 0 j 5) ≤ v4) (p1 := 77) (l1 := [(0, mR 0 j 0), (2, mI v2), (3, mI v3), (4, mI v4)]) (s1 := []) (M1 := M) (p2 := 60) (l2 := [(0, mR 0 j 0), (2, mI v2), (3, mI v3), (4, mI v4)]) (s2 := []) (M2 := M) rfl).trans ?_
  refine mi_itc ?_ ?_
  · refine (mx_steps 1 (pc' := 78) (ls' := [(0, mR 0 j 0), (2, mI v2), (3, mI v3), (4, mI v4)]) (st' := [mI v3]) (M' := M) rfl).trans ?_
    exact mx_ret rfl rfl
  · refine (mx_steps 3 (pc' := 66) (ls' := [(0, mR 0 j 0), (2, mI v2), (3, mI v3), (4, mI v4)]) (st' := [mI v4, mR 13 j 0]) (M' := M) rfl).trans ?_
    refine (mx_ix (i := v4) (n := 10) (pc' := 67) (ls' := [(0, mR 0 j 0), (2, mI v2), (3, mI v3), (4, mI v4)]) (sf := fun k1 => [mR 14 j k1]) (Mf := fun k1 => M) rfl).trans ?_
    refine mi_bdc fun k1 => ?_
    refine (mx_steps 1 (pc' := 68) (ls' := [(0, mR 0 j 0), (2, mI v2), (3, mI v3), (4, mI v4)]) (st' := [mI v2, mR 14 j k1]) (M' := M) rfl).trans ?_
    refine (mx_callV (z := 14) (as := [mR 14 j k1, mI v2]) (pc' := 71) (ls' := [(0, mR 0 j 0), (2, mI v2), (3, mI v3), (4, mI v4)]) (r := []) rfl rfl).trans ?_
    refine mi_bdc fun M2 => ?_
    refine (mx_steps 2 (pc' := 51) (ls' := [(0, mR 0 j 0), (2, mI v2), (3, mI v3), (4, mI (v4 + 1))]) (st' := []) (M' := M2) rfl).trans ?_
    rfl

set_option maxRecDepth 20000 in
theorem fN_clearLink_eq (j : Nat) (a1 : Int32) (M : mM) : fN_clearLink j a1 M = (fN_hasLink j a1 M).bind fun q1 => (if ¬ q1.1 = 0 then (mi_ix a1 10).bind fun k2 => (mi_ix 5 10).bind fun k3 => (mi_ix a1 10).bind fun k4 => (mi_ix 6 10).bind fun k5 => (mi_ix a1 10).bind fun k6 => (mi_ix a1 10).bind fun k7 => (mi_ix 4 10).bind fun k8 => (fN_startStore j k6 (q1.2.1 0 j (54 + 10 * k7 + k8)) q1.2).bind fun M9 => some ((q1.2.1 0 j (54 + 10 * k2 + k3)) + (q1.2.1 0 j (54 + 10 * k4 + k5)), M9) else some ((-1002), q1.2)) := by
  refine (mx_steps 2 (pc' := 2) (ls' := [(0, mR 0 j 0), (1, mI a1)]) (st' := [mI a1, mR 0 j 0]) (M' := M) rfl).trans ?_
  refine (mx_callI (z := 2) (as := [mR 0 j 0, mI a1]) (pc' := 5) (ls' := [(0, mR 0 j 0), (1, mI a1)]) (r := []) rfl (Or.inr rfl)).trans ?_
  refine mi_bdc fun q1 => ?_
  refine (mx_if (c := ¬ q1.1 = 0) (p1 := 12) (l1 := [(0, mR 0 j 0), (1, mI a1)]) (s1 := []) (M1 := q1.2) (p2 := 8) (l2 := [(0, mR 0 j 0), (1, mI a1)]) (s2 := []) (M2 := q1.2) rfl).trans ?_
  refine mi_itc ?_ ?_
  · refine (mx_steps 3 (pc' := 17) (ls' := [(0, mR 0 j 0), (1, mI a1)]) (st' := [mI a1, mR 13 j 0]) (M' := q1.2) rfl).trans ?_
    refine (mx_ix (i := a1) (n := 10) (pc' := 18) (ls' := [(0, mR 0 j 0), (1, mI a1)]) (sf := fun k2 => [mR 14 j k2]) (Mf := fun k2 => q1.2) rfl).trans ?_
    refine mi_bdc fun k2 => ?_
    refine (mx_steps 1 (pc' := 19) (ls' := [(0, mR 0 j 0), (1, mI a1)]) (st' := [mI 5, mR 14 j k2]) (M' := q1.2) rfl).trans ?_
    refine (mx_ix (i := 5) (n := 10) (pc' := 20) (ls' := [(0, mR 0 j 0), (1, mI a1)]) (sf := fun k3 => [mI (q1.2.1 0 j (54 + 10 * k2 + k3))]) (Mf := fun k3 => q1.2) rfl).trans ?_
    refine mi_bdc fun k3 => ?_
    refine (mx_steps 3 (pc' := 25) (ls' := [(0, mR 0 j 0), (1, mI a1)]) (st' := [mI a1, mR 13 j 0, mI (q1.2.1 0 j (54 + 10 * k2 + k3))]) (M' := q1.2) rfl).trans ?_
    refine (mx_ix (i := a1) (n := 10) (pc' := 26) (ls' := [(0, mR 0 j 0), (1, mI a1)]) (sf := fun k4 => [mR 14 j k4, mI (q1.2.1 0 j (54 + 10 * k2 + k3))]) (Mf := fun k4 => q1.2) rfl).trans ?_
    refine mi_bdc fun k4 => ?_
    refine (mx_steps 1 (pc' := 28) (ls' := [(0, mR 0 j 0), (1, mI a1)]) (st' := [mI 6, mR 14 j k4, mI (q1.2.1 0 j (54 + 10 * k2 + k3))]) (M' := q1.2) rfl).trans ?_
    refine (mx_ix (i := 6) (n := 10) (pc' := 29) (ls' := [(0, mR 0 j 0), (1, mI a1)]) (sf := fun k5 => [mI (q1.2.1 0 j (54 + 10 * k4 + k5)), mI (q1.2.1 0 j (54 + 10 * k2 + k3))]) (Mf := fun k5 => q1.2) rfl).trans ?_
    refine mi_bdc fun k5 => ?_
    refine (mx_steps 5 (pc' := 36) (ls' := [(0, mR 0 j 0), (1, mI a1), (2, mI ((q1.2.1 0 j (54 + 10 * k2 + k3)) + (q1.2.1 0 j (54 + 10 * k4 + k5))))]) (st' := [mI a1, mR 13 j 0]) (M' := q1.2) rfl).trans ?_
    refine (mx_ix (i := a1) (n := 10) (pc' := 37) (ls' := [(0, mR 0 j 0), (1, mI a1), (2, mI ((q1.2.1 0 j (54 + 10 * k2 + k3)) + (q1.2.1 0 j (54 + 10 * k4 + k5))))]) (sf := fun k6 => [mR 14 j k6]) (Mf := fun k6 => q1.2) rfl).trans ?_
    refine mi_bdc fun k6 => ?_
    refine (mx_steps 3 (pc' := 42) (ls' := [(0, mR 0 j 0), (1, mI a1), (2, mI ((q1.2.1 0 j (54 + 10 * k2 + k3)) + (q1.2.1 0 j (54 + 10 * k4 + k5))))]) (st' := [mI a1, mR 13 j 0, mR 14 j k6]) (M' := q1.2) rfl).trans ?_
    refine (mx_ix (i := a1) (n := 10) (pc' := 43) (ls' := [(0, mR 0 j 0), (1, mI a1), (2, mI ((q1.2.1 0 j (54 + 10 * k2 + k3)) + (q1.2.1 0 j (54 + 10 * k4 + k5))))]) (sf := fun k7 => [mR 14 j k7, mR 14 j k6]) (Mf := fun k7 => q1.2) rfl).trans ?_
    refine mi_bdc fun k7 => ?_
    refine (mx_steps 1 (pc' := 44) (ls' := [(0, mR 0 j 0), (1, mI a1), (2, mI ((q1.2.1 0 j (54 + 10 * k2 + k3)) + (q1.2.1 0 j (54 + 10 * k4 + k5))))]) (st' := [mI 4, mR 14 j k7, mR 14 j k6]) (M' := q1.2) rfl).trans ?_
    refine (mx_ix (i := 4) (n := 10) (pc' := 45) (ls' := [(0, mR 0 j 0), (1, mI a1), (2, mI ((q1.2.1 0 j (54 + 10 * k2 + k3)) + (q1.2.1 0 j (54 + 10 * k4 + k5))))]) (sf := fun k8 => [mI (q1.2.1 0 j (54 + 10 * k7 + k8)), mR 14 j k6]) (Mf := fun k8 => q1.2) rfl).trans ?_
    refine mi_bdc fun k8 => ?_
    refine (mx_callV (z := 14) (as := [mR 14 j k6, mI (q1.2.1 0 j (54 + 10 * k7 + k8))]) (pc' := 48) (ls' := [(0, mR 0 j 0), (1, mI a1), (2, mI ((q1.2.1 0 j (54 + 10 * k2 + k3)) + (q1.2.1 0 j (54 + 10 * k4 + k5))))]) (r := []) rfl rfl).trans ?_
    refine mi_bdc fun M9 => ?_
    refine (mx_steps 1 (pc' := 49) (ls' := [(0, mR 0 j 0), (1, mI a1), (2, mI ((q1.2.1 0 j (54 + 10 * k2 + k3)) + (q1.2.1 0 j (54 + 10 * k4 + k5))))]) (st' := [mI ((q1.2.1 0 j (54 + 10 * k2 + k3)) + (q1.2.1 0 j (54 + 10 * k4 + k5)))]) (M' := M9) rfl).trans ?_
    exact mx_ret rfl rfl
  · refine (mx_steps 1 (pc' := 11) (ls' := [(0, mR 0 j 0), (1, mI a1)]) (st' := [mI ((-1002))]) (M' := q1.2) rfl).trans ?_
    exact mx_ret rfl rfl

set_option maxRecDepth 20000 in
theorem fN_lookOften_eq (j : Nat) (a1 : Int32) (M : mM) : fN_lookOften j a1 M = (fX_isWithin a1 1 60 M).bind fun q1 => (if ¬ q1.1 = 0 then fN_lookOften_L16 j a1 0 q1.2 else some ((-1002), q1.2)) := by
  refine (mx_steps 3 (pc' := 4) (ls' := [(0, mR 0 j 0), (1, mI a1)]) (st' := [mI 60, mI 1, mI a1]) (M' := M) rfl).trans ?_
  refine (mx_callI (z := 63) (as := [mI a1, mI 1, mI 60]) (pc' := 7) (ls' := [(0, mR 0 j 0), (1, mI a1)]) (r := []) rfl (Or.inr rfl)).trans ?_
  refine mi_bdc fun q1 => ?_
  refine (mx_if (c := ¬ q1.1 = 0) (p1 := 14) (l1 := [(0, mR 0 j 0), (1, mI a1)]) (s1 := []) (M1 := q1.2) (p2 := 10) (l2 := [(0, mR 0 j 0), (1, mI a1)]) (s2 := []) (M2 := q1.2) rfl).trans ?_
  refine mi_itc ?_ ?_
  · refine (mx_steps 2 (pc' := 16) (ls' := [(0, mR 0 j 0), (1, mI a1), (2, mI 0)]) (st' := []) (M' := q1.2) rfl).trans ?_
    rfl
  · refine (mx_steps 1 (pc' := 13) (ls' := [(0, mR 0 j 0), (1, mI a1)]) (st' := [mI ((-1002))]) (M' := q1.2) rfl).trans ?_
    exact mx_ret rfl rfl

set_option maxRecDepth 20000 in
theorem fN_lookOften_L16_eq (j : Nat) (v1 : Int32) (v2 : Int32) (M : mM) : fN_lookOften_L16 j v1 v2 M = (if v1 ≤ v2 then (fN_followerCount j M).bind fun q1 => some (q1.1, q1.2) else (fN_lookOnce j M).bind fun q2 => fN_lookOften_L16 j v1 (v2 + 1) q2.2) := by
  refine (mx_steps 2 (pc' := 18) (ls' := [(0, mR 0 j 0), (1, mI v1), (2, mI v2)]) (st' := [mI v1, mI v2]) (M' := M) rfl).trans ?_
  refine (mx_if (c := v1 ≤ v2) (p1 := 32) (l1 := [(0, mR 0 j 0), (1, mI v1), (2, mI v2)]) (s1 := []) (M1 := M) (p2 := 21) (l2 := [(0, mR 0 j 0), (1, mI v1), (2, mI v2)]) (s2 := []) (M2 := M) rfl).trans ?_
  refine mi_itc ?_ ?_
  · refine (mx_steps 1 (pc' := 33) (ls' := [(0, mR 0 j 0), (1, mI v1), (2, mI v2)]) (st' := [mR 0 j 0]) (M' := M) rfl).trans ?_
    refine (mx_callI (z := 28) (as := [mR 0 j 0]) (pc' := 36) (ls' := [(0, mR 0 j 0), (1, mI v1), (2, mI v2)]) (r := []) rfl (Or.inl rfl)).trans ?_
    refine mi_bdc fun q1 => ?_
    exact mx_ret rfl rfl
  · refine (mx_steps 1 (pc' := 22) (ls' := [(0, mR 0 j 0), (1, mI v1), (2, mI v2)]) (st' := [mR 0 j 0]) (M' := M) rfl).trans ?_
    refine (mx_callI (z := 18) (as := [mR 0 j 0]) (pc' := 25) (ls' := [(0, mR 0 j 0), (1, mI v1), (2, mI v2)]) (r := []) rfl (Or.inr rfl)).trans ?_
    refine mi_bdc fun q2 => ?_
    refine (mx_steps 3 (pc' := 16) (ls' := [(0, mR 0 j 0), (1, mI v1), (2, mI (v2 + 1))]) (st' := []) (M' := q2.2) rfl).trans ?_
    rfl

set_option maxRecDepth 20000 in
theorem fN_tickOften_eq (j : Nat) (a1 : Int32) (M : mM) : fN_tickOften j a1 M = (fX_isWithin a1 1 200 M).bind fun q1 => (if ¬ q1.1 = 0 then fN_tickOften_L19 j a1 0 0 q1.2 else some ((-1002), q1.2)) := by
  refine (mx_steps 3 (pc' := 5) (ls' := [(0, mR 0 j 0), (1, mI a1)]) (st' := [mI 200, mI 1, mI a1]) (M' := M) rfl).trans ?_
  refine (mx_callI (z := 63) (as := [mI a1, mI 1, mI 200]) (pc' := 8) (ls' := [(0, mR 0 j 0), (1, mI a1)]) (r := []) rfl (Or.inr rfl)).trans ?_
  refine mi_bdc fun q1 => ?_
  refine (mx_if (c := ¬ q1.1 = 0) (p1 := 15) (l1 := [(0, mR 0 j 0), (1, mI a1)]) (s1 := []) (M1 := q1.2) (p2 := 11) (l2 := [(0, mR 0 j 0), (1, mI a1)]) (s2 := []) (M2 := q1.2) rfl).trans ?_
  refine mi_itc ?_ ?_
  · refine (mx_steps 4 (pc' := 19) (ls' := [(0, mR 0 j 0), (1, mI a1), (2, mI 0), (3, mI 0)]) (st' := []) (M' := q1.2) rfl).trans ?_
    rfl
  · refine (mx_steps 1 (pc' := 14) (ls' := [(0, mR 0 j 0), (1, mI a1)]) (st' := [mI ((-1002))]) (M' := q1.2) rfl).trans ?_
    exact mx_ret rfl rfl

set_option maxRecDepth 20000 in
theorem fN_tickOften_L19_eq (j : Nat) (v1 : Int32) (v2 : Int32) (v3 : Int32) (M : mM) : fN_tickOften_L19 j v1 v2 v3 M = (if v1 ≤ v3 then some (v2, M) else (fN_tickOnce j M).bind fun q1 => fN_tickOften_L19 j v1 (v2 + q1.1) (v3 + 1) q1.2) := by
  refine (mx_steps 2 (pc' := 21) (ls' := [(0, mR 0 j 0), (1, mI v1), (2, mI v2), (3, mI v3)]) (st' := [mI v1, mI v3]) (M' := M) rfl).trans ?_
  refine (mx_if (c := v1 ≤ v3) (p1 := 37) (l1 := [(0, mR 0 j 0), (1, mI v1), (2, mI v2), (3, mI v3)]) (s1 := []) (M1 := M) (p2 := 24) (l2 := [(0, mR 0 j 0), (1, mI v1), (2, mI v2), (3, mI v3)]) (s2 := []) (M2 := M) rfl).trans ?_
  refine mi_itc ?_ ?_
  · refine (mx_steps 1 (pc' := 38) (ls' := [(0, mR 0 j 0), (1, mI v1), (2, mI v2), (3, mI v3)]) (st' := [mI v2]) (M' := M) rfl).trans ?_
    exact mx_ret rfl rfl
  · refine (mx_steps 2 (pc' := 26) (ls' := [(0, mR 0 j 0), (1, mI v1), (2, mI v2), (3, mI v3)]) (st' := [mR 0 j 0, mI v2]) (M' := M) rfl).trans ?_
    refine (mx_callI (z := 22) (as := [mR 0 j 0]) (pc' := 29) (ls' := [(0, mR 0 j 0), (1, mI v1), (2, mI v2), (3, mI v3)]) (r := [mI v2]) rfl (Or.inl rfl)).trans ?_
    refine mi_bdc fun q1 => ?_
    refine (mx_steps 4 (pc' := 19) (ls' := [(0, mR 0 j 0), (1, mI v1), (2, mI (v2 + q1.1)), (3, mI (v3 + 1))]) (st' := []) (M' := q1.2) rfl).trans ?_
    rfl

set_option maxRecDepth 20000 in
theorem fN_isOwn_eq (a0 : Int32) (a1 : Int32) (M : mM) : fN_isOwn a0 a1 M = (fX_isWithin a0 0 9 M).bind fun q1 => (if q1.1 = 0 then some (0, q1.2) else (fX_isWithin a1 ((-99)) 99 q1.2).bind fun q2 => (if q2.1 = 0 then some (0, q2.2) else some (1, q2.2))) := by
  refine (mx_steps 3 (pc' := 4) (ls' := [(0, mI a0), (1, mI a1)]) (st' := [mI 9, mI 0, mI a0]) (M' := M) rfl).trans ?_
  refine (mx_callI (z := 63) (as := [mI a0, mI 0, mI 9]) (pc' := 7) (ls' := [(0, mI a0), (1, mI a1)]) (r := []) rfl (Or.inr rfl)).trans ?_
  refine mi_bdc fun q1 => ?_
  refine (mx_if (c := q1.1 = 0) (p1 := 25) (l1 := [(0, mI a0), (1, mI a1)]) (s1 := []) (M1 := q1.2) (p2 := 10) (l2 := [(0, mI a0), (1, mI a1)]) (s2 := []) (M2 := q1.2) rfl).trans ?_
  refine mi_itc ?_ ?_
  · refine (mx_steps 1 (pc' := 26) (ls' := [(0, mI a0), (1, mI a1)]) (st' := [mI 0]) (M' := q1.2) rfl).trans ?_
    exact mx_ret rfl rfl
  · refine (mx_steps 3 (pc' := 15) (ls' := [(0, mI a0), (1, mI a1)]) (st' := [mI 99, mI ((-99)), mI a1]) (M' := q1.2) rfl).trans ?_
    refine (mx_callI (z := 63) (as := [mI a1, mI ((-99)), mI 99]) (pc' := 18) (ls' := [(0, mI a0), (1, mI a1)]) (r := []) rfl (Or.inr rfl)).trans ?_
    refine mi_bdc fun q2 => ?_
    refine (mx_if (c := q2.1 = 0) (p1 := 25) (l1 := [(0, mI a0), (1, mI a1)]) (s1 := []) (M1 := q2.2) (p2 := 21) (l2 := [(0, mI a0), (1, mI a1)]) (s2 := []) (M2 := q2.2) rfl).trans ?_
    refine mi_itc ?_ ?_
    · refine (mx_steps 1 (pc' := 26) (ls' := [(0, mI a0), (1, mI a1)]) (st' := [mI 0]) (M' := q2.2) rfl).trans ?_
      exact mx_ret rfl rfl
    · refine (mx_steps 2 (pc' := 26) (ls' := [(0, mI a0), (1, mI a1)]) (st' := [mI 1]) (M' := q2.2) rfl).trans ?_
      exact mx_ret rfl rfl

set_option maxRecDepth 20000 in
theorem fN_startNode_eq (j : Nat) (i : Nat) (a1 : Int32) (a2 : Int32) (M : mM) : fN_startNode j i a1 a2 M = (mi_ix 0 8).bind fun k1 => (mi_ix 1 8).bind fun k2 => (mi_ix 2 8).bind fun k3 => (mi_ix 3 8).bind fun k4 => (mi_ix 4 8).bind fun k5 => (mi_ix 5 8).bind fun k6 => (mi_ix 6 8).bind fun k7 => (mi_ix 7 8).bind fun k8 => some (mi_set (mi_set (mi_set (mi_set (mi_set (mi_set (mi_set (mi_set M 0 j (6 + 8 * i + k1) a1) 0 j (6 + 8 * i + k2) 0) 0 j (6 + 8 * i + k3) a2) 0 j (6 + 8 * i + k4) ((-1001))) 0 j (6 + 8 * i + k5) a1) 0 j (6 + 8 * i + k6) a2) 0 j (6 + 8 * i + k7) 0) 0 j (6 + 8 * i + k8) 0) := by
  refine (mx_steps 3 (pc' := 3) (ls' := [(0, mR 12 j i), (1, mI a1), (2, mI a2)]) (st' := [mI a1, mI 0, mR 12 j i]) (M' := M) rfl).trans ?_
  refine (mx_ix (i := 0) (n := 8) (pc' := 4) (ls' := [(0, mR 12 j i), (1, mI a1), (2, mI a2)]) (sf := fun k1 => []) (Mf := fun k1 => mi_set M 0 j (6 + 8 * i + k1) a1) rfl).trans ?_
  refine mi_bdc fun k1 => ?_
  refine (mx_steps 3 (pc' := 7) (ls' := [(0, mR 12 j i), (1, mI a1), (2, mI a2)]) (st' := [mI 0, mI 1, mR 12 j i]) (M' := mi_set M 0 j (6 + 8 * i + k1) a1) rfl).trans ?_
  refine (mx_ix (i := 1) (n := 8) (pc' := 8) (ls' := [(0, mR 12 j i), (1, mI a1), (2, mI a2)]) (sf := fun k2 => []) (Mf := fun k2 => mi_set (mi_set M 0 j (6 + 8 * i + k1) a1) 0 j (6 + 8 * i + k2) 0) rfl).trans ?_
  refine mi_bdc fun k2 => ?_
  refine (mx_steps 3 (pc' := 11) (ls' := [(0, mR 12 j i), (1, mI a1), (2, mI a2)]) (st' := [mI a2, mI 2, mR 12 j i]) (M' := mi_set (mi_set M 0 j (6 + 8 * i + k1) a1) 0 j (6 + 8 * i + k2) 0) rfl).trans ?_
  refine (mx_ix (i := 2) (n := 8) (pc' := 12) (ls' := [(0, mR 12 j i), (1, mI a1), (2, mI a2)]) (sf := fun k3 => []) (Mf := fun k3 => mi_set (mi_set (mi_set M 0 j (6 + 8 * i + k1) a1) 0 j (6 + 8 * i + k2) 0) 0 j (6 + 8 * i + k3) a2) rfl).trans ?_
  refine mi_bdc fun k3 => ?_
  refine (mx_steps 3 (pc' := 17) (ls' := [(0, mR 12 j i), (1, mI a1), (2, mI a2)]) (st' := [mI ((-1001)), mI 3, mR 12 j i]) (M' := mi_set (mi_set (mi_set M 0 j (6 + 8 * i + k1) a1) 0 j (6 + 8 * i + k2) 0) 0 j (6 + 8 * i + k3) a2) rfl).trans ?_
  refine (mx_ix (i := 3) (n := 8) (pc' := 18) (ls' := [(0, mR 12 j i), (1, mI a1), (2, mI a2)]) (sf := fun k4 => []) (Mf := fun k4 => mi_set (mi_set (mi_set (mi_set M 0 j (6 + 8 * i + k1) a1) 0 j (6 + 8 * i + k2) 0) 0 j (6 + 8 * i + k3) a2) 0 j (6 + 8 * i + k4) ((-1001))) rfl).trans ?_
  refine mi_bdc fun k4 => ?_
  refine (mx_steps 3 (pc' := 21) (ls' := [(0, mR 12 j i), (1, mI a1), (2, mI a2)]) (st' := [mI a1, mI 4, mR 12 j i]) (M' := mi_set (mi_set (mi_set (mi_set M 0 j (6 + 8 * i + k1) a1) 0 j (6 + 8 * i + k2) 0) 0 j (6 + 8 * i + k3) a2) 0 j (6 + 8 * i + k4) ((-1001))) rfl).trans ?_
  refine (mx_ix (i := 4) (n := 8) (pc' := 22) (ls' := [(0, mR 12 j i), (1, mI a1), (2, mI a2)]) (sf := fun k5 => []) (Mf := fun k5 => mi_set (mi_set (mi_set (mi_set (mi_set M 0 j (6 + 8 * i + k1) a1) 0 j (6 + 8 * i + k2) 0) 0 j (6 + 8 * i + k3) a2) 0 j (6 + 8 * i + k4) ((-1001))) 0 j (6 + 8 * i + k5) a1) rfl).trans ?_
  refine mi_bdc fun k5 => ?_
  refine (mx_steps 3 (pc' := 25) (ls' := [(0, mR 12 j i), (1, mI a1), (2, mI a2)]) (st' := [mI a2, mI 5, mR 12 j i]) (M' := mi_set (mi_set (mi_set (mi_set (mi_set M 0 j (6 + 8 * i + k1) a1) 0 j (6 + 8 * i + k2) 0) 0 j (6 + 8 * i + k3) a2) 0 j (6 + 8 * i + k4) ((-1001))) 0 j (6 + 8 * i + k5) a1) rfl).trans ?_
  refine (mx_ix (i := 5) (n := 8) (pc' := 26) (ls' := [(0, mR 12 j i), (1, mI a1), (2, mI a2)]) (sf := fun k6 => []) (Mf := fun k6 => mi_set (mi_set (mi_set (mi_set (mi_set (mi_set M 0 j (6 + 8 * i + k1) a1) 0 j (6 + 8 * i + k2) 0) 0 j (6 + 8 * i + k3) a2) 0 j (6 + 8 * i + k4) ((-1001))) 0 j (6 + 8 * i + k5) a1) 0 j (6 + 8 * i + k6) a2) rfl).trans ?_
  refine mi_bdc fun k6 => ?_
  refine (mx_steps 3 (pc' := 30) (ls' := [(0, mR 12 j i), (1, mI a1), (2, mI a2)]) (st' := [mI 0, mI 6, mR 12 j i]) (M' := mi_set (mi_set (mi_set (mi_set (mi_set (mi_set M 0 j (6 + 8 * i + k1) a1) 0 j (6 + 8 * i + k2) 0) 0 j (6 + 8 * i + k3) a2) 0 j (6 + 8 * i + k4) ((-1001))) 0 j (6 + 8 * i + k5) a1) 0 j (6 + 8 * i + k6) a2) rfl).trans ?_
  refine (mx_ix (i := 6) (n := 8) (pc' := 31) (ls' := [(0, mR 12 j i), (1, mI a1), (2, mI a2)]) (sf := fun k7 => []) (Mf := fun k7 => mi_set (mi_set (mi_set (mi_set (mi_set (mi_set (mi_set M 0 j (6 + 8 * i + k1) a1) 0 j (6 + 8 * i + k2) 0) 0 j (6 + 8 * i + k3) a2) 0 j (6 + 8 * i + k4) ((-1001))) 0 j (6 + 8 * i + k5) a1) 0 j (6 + 8 * i + k6) a2) 0 j (6 + 8 * i + k7) 0) rfl).trans ?_
  refine mi_bdc fun k7 => ?_
  refine (mx_steps 3 (pc' := 35) (ls' := [(0, mR 12 j i), (1, mI a1), (2, mI a2)]) (st' := [mI 0, mI 7, mR 12 j i]) (M' := mi_set (mi_set (mi_set (mi_set (mi_set (mi_set (mi_set M 0 j (6 + 8 * i + k1) a1) 0 j (6 + 8 * i + k2) 0) 0 j (6 + 8 * i + k3) a2) 0 j (6 + 8 * i + k4) ((-1001))) 0 j (6 + 8 * i + k5) a1) 0 j (6 + 8 * i + k6) a2) 0 j (6 + 8 * i + k7) 0) rfl).trans ?_
  refine (mx_ix (i := 7) (n := 8) (pc' := 36) (ls' := [(0, mR 12 j i), (1, mI a1), (2, mI a2)]) (sf := fun k8 => []) (Mf := fun k8 => mi_set (mi_set (mi_set (mi_set (mi_set (mi_set (mi_set (mi_set M 0 j (6 + 8 * i + k1) a1) 0 j (6 + 8 * i + k2) 0) 0 j (6 + 8 * i + k3) a2) 0 j (6 + 8 * i + k4) ((-1001))) 0 j (6 + 8 * i + k5) a1) 0 j (6 + 8 * i + k6) a2) 0 j (6 + 8 * i + k7) 0) 0 j (6 + 8 * i + k8) 0) rfl).trans ?_
  refine mi_bdc fun k8 => ?_
  exact mx_ret rfl rfl

set_option maxRecDepth 20000 in
theorem fN_startStore_eq (j : Nat) (i : Nat) (a1 : Int32) (M : mM) : fN_startStore j i a1 M = (mi_ix 4 10).bind fun k1 => (mi_ix 7 10).bind fun k2 => (mi_ix 8 10).bind fun k3 => (mi_ix 5 10).bind fun k4 => (mi_ix 6 10).bind fun k5 => (mi_ix 9 10).bind fun k6 => some (mi_set (mi_set (mi_set (mi_set (mi_set (mi_set M 0 j (54 + 10 * i + k1) a1) 0 j (54 + 10 * i + k2) a1) 0 j (54 + 10 * i + k3) a1) 0 j (54 + 10 * i + k4) 0) 0 j (54 + 10 * i + k5) 0) 0 j (54 + 10 * i + k6) 0) := by
  refine (mx_steps 3 (pc' := 3) (ls' := [(0, mR 14 j i), (1, mI a1)]) (st' := [mI a1, mI 4, mR 14 j i]) (M' := M) rfl).trans ?_
  refine (mx_ix (i := 4) (n := 10) (pc' := 4) (ls' := [(0, mR 14 j i), (1, mI a1)]) (sf := fun k1 => []) (Mf := fun k1 => mi_set M 0 j (54 + 10 * i + k1) a1) rfl).trans ?_
  refine mi_bdc fun k1 => ?_
  refine (mx_steps 3 (pc' := 8) (ls' := [(0, mR 14 j i), (1, mI a1)]) (st' := [mI a1, mI 7, mR 14 j i]) (M' := mi_set M 0 j (54 + 10 * i + k1) a1) rfl).trans ?_
  refine (mx_ix (i := 7) (n := 10) (pc' := 9) (ls' := [(0, mR 14 j i), (1, mI a1)]) (sf := fun k2 => []) (Mf := fun k2 => mi_set (mi_set M 0 j (54 + 10 * i + k1) a1) 0 j (54 + 10 * i + k2) a1) rfl).trans ?_
  refine mi_bdc fun k2 => ?_
  refine (mx_steps 3 (pc' := 13) (ls' := [(0, mR 14 j i), (1, mI a1)]) (st' := [mI a1, mI 8, mR 14 j i]) (M' := mi_set (mi_set M 0 j (54 + 10 * i + k1) a1) 0 j (54 + 10 * i + k2) a1) rfl).trans ?_
  refine (mx_ix (i := 8) (n := 10) (pc' := 14) (ls' := [(0, mR 14 j i), (1, mI a1)]) (sf := fun k3 => []) (Mf := fun k3 => mi_set (mi_set (mi_set M 0 j (54 + 10 * i + k1) a1) 0 j (54 + 10 * i + k2) a1) 0 j (54 + 10 * i + k3) a1) rfl).trans ?_
  refine mi_bdc fun k3 => ?_
  refine (mx_steps 3 (pc' := 17) (ls' := [(0, mR 14 j i), (1, mI a1)]) (st' := [mI 0, mI 5, mR 14 j i]) (M' := mi_set (mi_set (mi_set M 0 j (54 + 10 * i + k1) a1) 0 j (54 + 10 * i + k2) a1) 0 j (54 + 10 * i + k3) a1) rfl).trans ?_
  refine (mx_ix (i := 5) (n := 10) (pc' := 18) (ls' := [(0, mR 14 j i), (1, mI a1)]) (sf := fun k4 => []) (Mf := fun k4 => mi_set (mi_set (mi_set (mi_set M 0 j (54 + 10 * i + k1) a1) 0 j (54 + 10 * i + k2) a1) 0 j (54 + 10 * i + k3) a1) 0 j (54 + 10 * i + k4) 0) rfl).trans ?_
  refine mi_bdc fun k4 => ?_
  refine (mx_steps 3 (pc' := 22) (ls' := [(0, mR 14 j i), (1, mI a1)]) (st' := [mI 0, mI 6, mR 14 j i]) (M' := mi_set (mi_set (mi_set (mi_set M 0 j (54 + 10 * i + k1) a1) 0 j (54 + 10 * i + k2) a1) 0 j (54 + 10 * i + k3) a1) 0 j (54 + 10 * i + k4) 0) rfl).trans ?_
  refine (mx_ix (i := 6) (n := 10) (pc' := 23) (ls' := [(0, mR 14 j i), (1, mI a1)]) (sf := fun k5 => []) (Mf := fun k5 => mi_set (mi_set (mi_set (mi_set (mi_set M 0 j (54 + 10 * i + k1) a1) 0 j (54 + 10 * i + k2) a1) 0 j (54 + 10 * i + k3) a1) 0 j (54 + 10 * i + k4) 0) 0 j (54 + 10 * i + k5) 0) rfl).trans ?_
  refine mi_bdc fun k5 => ?_
  refine (mx_steps 3 (pc' := 27) (ls' := [(0, mR 14 j i), (1, mI a1)]) (st' := [mI 0, mI 9, mR 14 j i]) (M' := mi_set (mi_set (mi_set (mi_set (mi_set M 0 j (54 + 10 * i + k1) a1) 0 j (54 + 10 * i + k2) a1) 0 j (54 + 10 * i + k3) a1) 0 j (54 + 10 * i + k4) 0) 0 j (54 + 10 * i + k5) 0) rfl).trans ?_
  refine (mx_ix (i := 9) (n := 10) (pc' := 28) (ls' := [(0, mR 14 j i), (1, mI a1)]) (sf := fun k6 => []) (Mf := fun k6 => mi_set (mi_set (mi_set (mi_set (mi_set (mi_set M 0 j (54 + 10 * i + k1) a1) 0 j (54 + 10 * i + k2) a1) 0 j (54 + 10 * i + k3) a1) 0 j (54 + 10 * i + k4) 0) 0 j (54 + 10 * i + k5) 0) 0 j (54 + 10 * i + k6) 0) rfl).trans ?_
  refine mi_bdc fun k6 => ?_
  exact mx_ret rfl rfl

set_option maxRecDepth 20000 in
theorem fN_nodeAhead_eq (j : Nat) (a1 : Int32) (M : mM) : fN_nodeAhead j a1 M = (mi_ix a1 6).bind fun k1 => (mi_ix 3 8).bind fun k2 => (if (M.1 0 j (6 + 8 * k1 + k2)) < 0 then some ((-1001), M) else (if (M.1 0 j 5) ≤ (M.1 0 j (6 + 8 * k1 + k2)) then some ((-1001), M) else (mi_ix (M.1 0 j (6 + 8 * k1 + k2)) 10).bind fun k3 => (mi_ix 0 10).bind fun k4 => some (M.1 0 j (54 + 10 * k3 + k4), M))) := by
  refine (mx_steps 3 (pc' := 5) (ls' := [(0, mR 0 j 0), (1, mI a1)]) (st' := [mI a1, mR 11 j 0]) (M' := M) rfl).trans ?_
  refine (mx_ix (i := a1) (n := 6) (pc' := 6) (ls' := [(0, mR 0 j 0), (1, mI a1)]) (sf := fun k1 => [mR 12 j k1]) (Mf := fun k1 => M) rfl).trans ?_
  refine mi_bdc fun k1 => ?_
  refine (mx_steps 1 (pc' := 7) (ls' := [(0, mR 0 j 0), (1, mI a1)]) (st' := [mI 3, mR 12 j k1]) (M' := M) rfl).trans ?_
  refine (mx_ix (i := 3) (n := 8) (pc' := 8) (ls' := [(0, mR 0 j 0), (1, mI a1)]) (sf := fun k2 => [mI (M.1 0 j (6 + 8 * k1 + k2))]) (Mf := fun k2 => M) rfl).trans ?_
  refine mi_bdc fun k2 => ?_
  refine (mx_steps 2 (pc' := 10) (ls' := [(0, mR 0 j 0), (1, mI a1), (2, mI (M.1 0 j (6 + 8 * k1 + k2)))]) (st' := [mI (M.1 0 j (6 + 8 * k1 + k2))]) (M' := M) rfl).trans ?_
  refine (mx_if (c := (M.1 0 j (6 + 8 * k1 + k2)) < 0) (p1 := 32) (l1 := [(0, mR 0 j 0), (1, mI a1), (2, mI (M.1 0 j (6 + 8 * k1 + k2)))]) (s1 := []) (M1 := M) (p2 := 13) (l2 := [(0, mR 0 j 0), (1, mI a1), (2, mI (M.1 0 j (6 + 8 * k1 + k2)))]) (s2 := []) (M2 := M) rfl).trans ?_
  refine mi_itc ?_ ?_
  · refine (mx_steps 1 (pc' := 35) (ls' := [(0, mR 0 j 0), (1, mI a1), (2, mI (M.1 0 j (6 + 8 * k1 + k2)))]) (st' := [mI ((-1001))]) (M' := M) rfl).trans ?_
    exact mx_ret rfl rfl
  · refine (mx_steps 3 (pc' := 18) (ls' := [(0, mR 0 j 0), (1, mI a1), (2, mI (M.1 0 j (6 + 8 * k1 + k2)))]) (st' := [mI (M.1 0 j 5), mI (M.1 0 j (6 + 8 * k1 + k2))]) (M' := M) rfl).trans ?_
    refine (mx_if (c := (M.1 0 j 5) ≤ (M.1 0 j (6 + 8 * k1 + k2))) (p1 := 32) (l1 := [(0, mR 0 j 0), (1, mI a1), (2, mI (M.1 0 j (6 + 8 * k1 + k2)))]) (s1 := []) (M1 := M) (p2 := 21) (l2 := [(0, mR 0 j 0), (1, mI a1), (2, mI (M.1 0 j (6 + 8 * k1 + k2)))]) (s2 := []) (M2 := M) rfl).trans ?_
    refine mi_itc ?_ ?_
    · refine (mx_steps 1 (pc' := 35) (ls' := [(0, mR 0 j 0), (1, mI a1), (2, mI (M.1 0 j (6 + 8 * k1 + k2)))]) (st' := [mI ((-1001))]) (M' := M) rfl).trans ?_
      exact mx_ret rfl rfl
    · refine (mx_steps 3 (pc' := 26) (ls' := [(0, mR 0 j 0), (1, mI a1), (2, mI (M.1 0 j (6 + 8 * k1 + k2)))]) (st' := [mI (M.1 0 j (6 + 8 * k1 + k2)), mR 13 j 0]) (M' := M) rfl).trans ?_
      refine (mx_ix (i := M.1 0 j (6 + 8 * k1 + k2)) (n := 10) (pc' := 27) (ls' := [(0, mR 0 j 0), (1, mI a1), (2, mI (M.1 0 j (6 + 8 * k1 + k2)))]) (sf := fun k3 => [mR 14 j k3]) (Mf := fun k3 => M) rfl).trans ?_
      refine mi_bdc fun k3 => ?_
      refine (mx_steps 1 (pc' := 28) (ls' := [(0, mR 0 j 0), (1, mI a1), (2, mI (M.1 0 j (6 + 8 * k1 + k2)))]) (st' := [mI 0, mR 14 j k3]) (M' := M) rfl).trans ?_
      refine (mx_ix (i := 0) (n := 10) (pc' := 29) (ls' := [(0, mR 0 j 0), (1, mI a1), (2, mI (M.1 0 j (6 + 8 * k1 + k2)))]) (sf := fun k4 => [mI (M.1 0 j (54 + 10 * k3 + k4))]) (Mf := fun k4 => M) rfl).trans ?_
      refine mi_bdc fun k4 => ?_
      refine (mx_steps 1 (pc' := 35) (ls' := [(0, mR 0 j 0), (1, mI a1), (2, mI (M.1 0 j (6 + 8 * k1 + k2)))]) (st' := [mI (M.1 0 j (54 + 10 * k3 + k4))]) (M' := M) rfl).trans ?_
      exact mx_ret rfl rfl

set_option maxRecDepth 20000 in
theorem fN_isOffering_eq (j : Nat) (a1 : Int32) (M : mM) : fN_isOffering j a1 M = (mi_ix a1 10).bind fun k1 => (mi_ix 0 10).bind fun k2 => (mi_ix a1 10).bind fun k3 => (mi_ix 3 10).bind fun k4 => (if ¬ (M.1 0 j (54 + 10 * k3 + k4)) = 1 then some (0, M) else (fN_nodeAhead j (M.1 0 j (54 + 10 * k1 + k2)) M).bind fun q5 => (mi_ix a1 10).bind fun k6 => (mi_ix 1 10).bind fun k7 => (if q5.1 = (q5.2.1 0 j (54 + 10 * k6 + k7)) then some (0, q5.2) else (mi_ix (M.1 0 j (54 + 10 * k1 + k2)) 6).bind fun k8 => (mi_ix 1 8).bind fun k9 => (mi_ix 2 3).bind fun k10 => (if (q5.2.1 0 j (0 + k10)) ≤ (q5.2.1 0 j (6 + 8 * k8 + k9)) then some (0, q5.2) else some (1, q5.2)))) := by
  refine (mx_steps 3 (pc' := 5) (ls' := [(0, mR 0 j 0), (1, mI a1)]) (st' := [mI a1, mR 13 j 0]) (M' := M) rfl).trans ?_
  refine (mx_ix (i := a1) (n := 10) (pc' := 6) (ls' := [(0, mR 0 j 0), (1, mI a1)]) (sf := fun k1 => [mR 14 j k1]) (Mf := fun k1 => M) rfl).trans ?_
  refine mi_bdc fun k1 => ?_
  refine (mx_steps 1 (pc' := 7) (ls' := [(0, mR 0 j 0), (1, mI a1)]) (st' := [mI 0, mR 14 j k1]) (M' := M) rfl).trans ?_
  refine (mx_ix (i := 0) (n := 10) (pc' := 8) (ls' := [(0, mR 0 j 0), (1, mI a1)]) (sf := fun k2 => [mI (M.1 0 j (54 + 10 * k1 + k2))]) (Mf := fun k2 => M) rfl).trans ?_
  refine mi_bdc fun k2 => ?_
  refine (mx_steps 4 (pc' := 14) (ls' := [(0, mR 0 j 0), (1, mI a1), (2, mI (M.1 0 j (54 + 10 * k1 + k2)))]) (st' := [mI a1, mR 13 j 0]) (M' := M) rfl).trans ?_
  refine (mx_ix (i := a1) (n := 10) (pc' := 15) (ls' := [(0, mR 0 j 0), (1, mI a1), (2, mI (M.1 0 j (54 + 10 * k1 + k2)))]) (sf := fun k3 => [mR 14 j k3]) (Mf := fun k3 => M) rfl).trans ?_
  refine mi_bdc fun k3 => ?_
  refine (mx_steps 1 (pc' := 16) (ls' := [(0, mR 0 j 0), (1, mI a1), (2, mI (M.1 0 j (54 + 10 * k1 + k2)))]) (st' := [mI 3, mR 14 j k3]) (M' := M) rfl).trans ?_
  refine (mx_ix (i := 3) (n := 10) (pc' := 17) (ls' := [(0, mR 0 j 0), (1, mI a1), (2, mI (M.1 0 j (54 + 10 * k1 + k2)))]) (sf := fun k4 => [mI (M.1 0 j (54 + 10 * k3 + k4))]) (Mf := fun k4 => M) rfl).trans ?_
  refine mi_bdc fun k4 => ?_
  refine (mx_steps 1 (pc' := 18) (ls' := [(0, mR 0 j 0), (1, mI a1), (2, mI (M.1 0 j (54 + 10 * k1 + k2)))]) (st' := [mI 1, mI (M.1 0 j (54 + 10 * k3 + k4))]) (M' := M) rfl).trans ?_
  refine (mx_if (c := ¬ (M.1 0 j (54 + 10 * k3 + k4)) = 1) (p1 := 58) (l1 := [(0, mR 0 j 0), (1, mI a1), (2, mI (M.1 0 j (54 + 10 * k1 + k2)))]) (s1 := []) (M1 := M) (p2 := 21) (l2 := [(0, mR 0 j 0), (1, mI a1), (2, mI (M.1 0 j (54 + 10 * k1 + k2)))]) (s2 := []) (M2 := M) rfl).trans ?_
  refine mi_itc ?_ ?_
  · refine (mx_steps 1 (pc' := 59) (ls' := [(0, mR 0 j 0), (1, mI a1), (2, mI (M.1 0 j (54 + 10 * k1 + k2)))]) (st' := [mI 0]) (M' := M) rfl).trans ?_
    exact mx_ret rfl rfl
  · refine (mx_steps 2 (pc' := 23) (ls' := [(0, mR 0 j 0), (1, mI a1), (2, mI (M.1 0 j (54 + 10 * k1 + k2)))]) (st' := [mI (M.1 0 j (54 + 10 * k1 + k2)), mR 0 j 0]) (M' := M) rfl).trans ?_
    refine (mx_callI (z := 15) (as := [mR 0 j 0, mI (M.1 0 j (54 + 10 * k1 + k2))]) (pc' := 26) (ls' := [(0, mR 0 j 0), (1, mI a1), (2, mI (M.1 0 j (54 + 10 * k1 + k2)))]) (r := []) rfl (Or.inl rfl)).trans ?_
    refine mi_bdc fun q5 => ?_
    refine (mx_steps 3 (pc' := 31) (ls' := [(0, mR 0 j 0), (1, mI a1), (2, mI (M.1 0 j (54 + 10 * k1 + k2)))]) (st' := [mI a1, mR 13 j 0, mI q5.1]) (M' := q5.2) rfl).trans ?_
    refine (mx_ix (i := a1) (n := 10) (pc' := 32) (ls' := [(0, mR 0 j 0), (1, mI a1), (2, mI (M.1 0 j (54 + 10 * k1 + k2)))]) (sf := fun k6 => [mR 14 j k6, mI q5.1]) (Mf := fun k6 => q5.2) rfl).trans ?_
    refine mi_bdc fun k6 => ?_
    refine (mx_steps 1 (pc' := 33) (ls' := [(0, mR 0 j 0), (1, mI a1), (2, mI (M.1 0 j (54 + 10 * k1 + k2)))]) (st' := [mI 1, mR 14 j k6, mI q5.1]) (M' := q5.2) rfl).trans ?_
    refine (mx_ix (i := 1) (n := 10) (pc' := 34) (ls' := [(0, mR 0 j 0), (1, mI a1), (2, mI (M.1 0 j (54 + 10 * k1 + k2)))]) (sf := fun k7 => [mI (q5.2.1 0 j (54 + 10 * k6 + k7)), mI q5.1]) (Mf := fun k7 => q5.2) rfl).trans ?_
    refine mi_bdc fun k7 => ?_
    refine (mx_if (c := q5.1 = (q5.2.1 0 j (54 + 10 * k6 + k7))) (p1 := 58) (l1 := [(0, mR 0 j 0), (1, mI a1), (2, mI (M.1 0 j (54 + 10 * k1 + k2)))]) (s1 := []) (M1 := q5.2) (p2 := 37) (l2 := [(0, mR 0 j 0), (1, mI a1), (2, mI (M.1 0 j (54 + 10 * k1 + k2)))]) (s2 := []) (M2 := q5.2) rfl).trans ?_
    refine mi_itc ?_ ?_
    · refine (mx_steps 1 (pc' := 59) (ls' := [(0, mR 0 j 0), (1, mI a1), (2, mI (M.1 0 j (54 + 10 * k1 + k2)))]) (st' := [mI 0]) (M' := q5.2) rfl).trans ?_
      exact mx_ret rfl rfl
    · refine (mx_steps 3 (pc' := 42) (ls' := [(0, mR 0 j 0), (1, mI a1), (2, mI (M.1 0 j (54 + 10 * k1 + k2)))]) (st' := [mI (M.1 0 j (54 + 10 * k1 + k2)), mR 11 j 0]) (M' := q5.2) rfl).trans ?_
      refine (mx_ix (i := M.1 0 j (54 + 10 * k1 + k2)) (n := 6) (pc' := 43) (ls' := [(0, mR 0 j 0), (1, mI a1), (2, mI (M.1 0 j (54 + 10 * k1 + k2)))]) (sf := fun k8 => [mR 12 j k8]) (Mf := fun k8 => q5.2) rfl).trans ?_
      refine mi_bdc fun k8 => ?_
      refine (mx_steps 1 (pc' := 44) (ls' := [(0, mR 0 j 0), (1, mI a1), (2, mI (M.1 0 j (54 + 10 * k1 + k2)))]) (st' := [mI 1, mR 12 j k8]) (M' := q5.2) rfl).trans ?_
      refine (mx_ix (i := 1) (n := 8) (pc' := 45) (ls' := [(0, mR 0 j 0), (1, mI a1), (2, mI (M.1 0 j (54 + 10 * k1 + k2)))]) (sf := fun k9 => [mI (q5.2.1 0 j (6 + 8 * k8 + k9))]) (Mf := fun k9 => q5.2) rfl).trans ?_
      refine mi_bdc fun k9 => ?_
      refine (mx_steps 3 (pc' := 50) (ls' := [(0, mR 0 j 0), (1, mI a1), (2, mI (M.1 0 j (54 + 10 * k1 + k2)))]) (st' := [mI 2, mR 15 j 0, mI (q5.2.1 0 j (6 + 8 * k8 + k9))]) (M' := q5.2) rfl).trans ?_
      refine (mx_ix (i := 2) (n := 3) (pc' := 51) (ls' := [(0, mR 0 j 0), (1, mI a1), (2, mI (M.1 0 j (54 + 10 * k1 + k2)))]) (sf := fun k10 => [mI (q5.2.1 0 j (0 + k10)), mI (q5.2.1 0 j (6 + 8 * k8 + k9))]) (Mf := fun k10 => q5.2) rfl).trans ?_
      refine mi_bdc fun k10 => ?_
      refine (mx_if (c := (q5.2.1 0 j (0 + k10)) ≤ (q5.2.1 0 j (6 + 8 * k8 + k9))) (p1 := 58) (l1 := [(0, mR 0 j 0), (1, mI a1), (2, mI (M.1 0 j (54 + 10 * k1 + k2)))]) (s1 := []) (M1 := q5.2) (p2 := 54) (l2 := [(0, mR 0 j 0), (1, mI a1), (2, mI (M.1 0 j (54 + 10 * k1 + k2)))]) (s2 := []) (M2 := q5.2) rfl).trans ?_
      refine mi_itc ?_ ?_
      · refine (mx_steps 1 (pc' := 59) (ls' := [(0, mR 0 j 0), (1, mI a1), (2, mI (M.1 0 j (54 + 10 * k1 + k2)))]) (st' := [mI 0]) (M' := q5.2) rfl).trans ?_
        exact mx_ret rfl rfl
      · refine (mx_steps 2 (pc' := 59) (ls' := [(0, mR 0 j 0), (1, mI a1), (2, mI (M.1 0 j (54 + 10 * k1 + k2)))]) (st' := [mI 1]) (M' := q5.2) rfl).trans ?_
        exact mx_ret rfl rfl

set_option maxRecDepth 20000 in
theorem fN_offered_eq (j : Nat) (a1 : Int32) (a2 : Int32) (M : mM) : fN_offered j a1 a2 M = (fN_isOffering j a1 M).bind fun q1 => (if ¬ q1.1 = 0 then (mi_ix a1 10).bind fun k2 => (mi_ix 0 10).bind fun k3 => (mi_ix (q1.2.1 0 j (54 + 10 * k2 + k3)) 6).bind fun k4 => (mi_ix a2 8).bind fun k5 => (if ¬ a2 = 1 then some (q1.2.1 0 j (6 + 8 * k4 + k5), q1.2) else some ((q1.2.1 0 j (6 + 8 * k4 + k5)) + 1, q1.2)) else some ((-1001), q1.2)) := by
  refine (mx_steps 2 (pc' := 2) (ls' := [(0, mR 0 j 0), (1, mI a1), (2, mI a2)]) (st' := [mI a1, mR 0 j 0]) (M' := M) rfl).trans ?_
  refine (mx_callI (z := 16) (as := [mR 0 j 0, mI a1]) (pc' := 5) (ls' := [(0, mR 0 j 0), (1, mI a1), (2, mI a2)]) (r := []) rfl (Or.inr rfl)).trans ?_
  refine mi_bdc fun q1 => ?_
  refine (mx_if (c := ¬ q1.1 = 0) (p1 := 12) (l1 := [(0, mR 0 j 0), (1, mI a1), (2, mI a2)]) (s1 := []) (M1 := q1.2) (p2 := 8) (l2 := [(0, mR 0 j 0), (1, mI a1), (2, mI a2)]) (s2 := []) (M2 := q1.2) rfl).trans ?_
  refine mi_itc ?_ ?_
  · refine (mx_steps 5 (pc' := 21) (ls' := [(0, mR 0 j 0), (1, mI a1), (2, mI a2)]) (st' := [mI a1, mR 13 j 0, mR 11 j 0]) (M' := q1.2) rfl).trans ?_
    refine (mx_ix (i := a1) (n := 10) (pc' := 22) (ls' := [(0, mR 0 j 0), (1, mI a1), (2, mI a2)]) (sf := fun k2 => [mR 14 j k2, mR 11 j 0]) (Mf := fun k2 => q1.2) rfl).trans ?_
    refine mi_bdc fun k2 => ?_
    refine (mx_steps 1 (pc' := 23) (ls' := [(0, mR 0 j 0), (1, mI a1), (2, mI a2)]) (st' := [mI 0, mR 14 j k2, mR 11 j 0]) (M' := q1.2) rfl).trans ?_
    refine (mx_ix (i := 0) (n := 10) (pc' := 24) (ls' := [(0, mR 0 j 0), (1, mI a1), (2, mI a2)]) (sf := fun k3 => [mI (q1.2.1 0 j (54 + 10 * k2 + k3)), mR 11 j 0]) (Mf := fun k3 => q1.2) rfl).trans ?_
    refine mi_bdc fun k3 => ?_
    refine (mx_ix (i := q1.2.1 0 j (54 + 10 * k2 + k3)) (n := 6) (pc' := 25) (ls' := [(0, mR 0 j 0), (1, mI a1), (2, mI a2)]) (sf := fun k4 => [mR 12 j k4]) (Mf := fun k4 => q1.2) rfl).trans ?_
    refine mi_bdc fun k4 => ?_
    refine (mx_steps 1 (pc' := 26) (ls' := [(0, mR 0 j 0), (1, mI a1), (2, mI a2)]) (st' := [mI a2, mR 12 j k4]) (M' := q1.2) rfl).trans ?_
    refine (mx_ix (i := a2) (n := 8) (pc' := 27) (ls' := [(0, mR 0 j 0), (1, mI a1), (2, mI a2)]) (sf := fun k5 => [mI (q1.2.1 0 j (6 + 8 * k4 + k5))]) (Mf := fun k5 => q1.2) rfl).trans ?_
    refine mi_bdc fun k5 => ?_
    refine (mx_steps 3 (pc' := 30) (ls' := [(0, mR 0 j 0), (1, mI a1), (2, mI a2), (3, mI (q1.2.1 0 j (6 + 8 * k4 + k5)))]) (st' := [mI 1, mI a2]) (M' := q1.2) rfl).trans ?_
    refine (mx_if (c := ¬ a2 = 1) (p1 := 39) (l1 := [(0, mR 0 j 0), (1, mI a1), (2, mI a2), (3, mI (q1.2.1 0 j (6 + 8 * k4 + k5)))]) (s1 := []) (M1 := q1.2) (p2 := 33) (l2 := [(0, mR 0 j 0), (1, mI a1), (2, mI a2), (3, mI (q1.2.1 0 j (6 + 8 * k4 + k5)))]) (s2 := []) (M2 := q1.2) rfl).trans ?_
    refine mi_itc ?_ ?_
    · refine (mx_steps 1 (pc' := 40) (ls' := [(0, mR 0 j 0), (1, mI a1), (2, mI a2), (3, mI (q1.2.1 0 j (6 + 8 * k4 + k5)))]) (st' := [mI (q1.2.1 0 j (6 + 8 * k4 + k5))]) (M' := q1.2) rfl).trans ?_
      exact mx_ret rfl rfl
    · refine (mx_steps 4 (pc' := 40) (ls' := [(0, mR 0 j 0), (1, mI a1), (2, mI a2), (3, mI (q1.2.1 0 j (6 + 8 * k4 + k5)))]) (st' := [mI ((q1.2.1 0 j (6 + 8 * k4 + k5)) + 1)]) (M' := q1.2) rfl).trans ?_
      exact mx_ret rfl rfl
  · refine (mx_steps 1 (pc' := 11) (ls' := [(0, mR 0 j 0), (1, mI a1), (2, mI a2)]) (st' := [mI ((-1001))]) (M' := q1.2) rfl).trans ?_
    exact mx_ret rfl rfl

set_option maxRecDepth 20000 in
theorem fN_lookOnce_eq (j : Nat) (M : mM) : fN_lookOnce j M = fN_lookOnce_L2 j 0 M := by
  refine (mx_steps 2 (pc' := 2) (ls' := [(0, mR 0 j 0), (1, mI 0)]) (st' := []) (M' := M) rfl).trans ?_
  rfl

set_option maxRecDepth 20000 in
theorem fN_lookOnce_L2_eq (j : Nat) (v1 : Int32) (M : mM) : fN_lookOnce_L2 j v1 M = (if (M.1 0 j 5) ≤ v1 then fN_lookOnce_L48 j 0 M else (fN_isOffering j v1 M).bind fun q1 => (if q1.1 = 0 then (mi_ix v1 10).bind fun k2 => fN_lookOnce_L2 j (v1 + 1) (mi_set q1.2 2 j (0 + k2) 1000) else (mi_ix v1 10).bind fun k3 => (fN_keyOf j k3 q1.2).bind fun q4 => (mi_ix v1 10).bind fun k5 => fN_lookOnce_L2 j (v1 + 1) (mi_set q4.2 2 j (0 + k5) q4.1))) := by
  refine (mx_steps 3 (pc' := 7) (ls' := [(0, mR 0 j 0), (1, mI v1)]) (st' := [mI (M.1 0 j 5), mI v1]) (M' := M) rfl).trans ?_
  refine (mx_if (c := (M.1 0 j 5) ≤ v1) (p1 := 46) (l1 := [(0, mR 0 j 0), (1, mI v1)]) (s1 := []) (M1 := M) (p2 := 10) (l2 := [(0, mR 0 j 0), (1, mI v1)]) (s2 := []) (M2 := M) rfl).trans ?_
  refine mi_itc ?_ ?_
  · refine (mx_steps 2 (pc' := 48) (ls' := [(0, mR 0 j 0), (1, mI 0)]) (st' := []) (M' := M) rfl).trans ?_
    rfl
  · refine (mx_steps 5 (pc' := 17) (ls' := [(0, mR 0 j 0), (1, mI v1)]) (st' := [mI v1, mR 0 j 0, mI v1, mR 18 j 0]) (M' := M) rfl).trans ?_
    refine (mx_callI (z := 16) (as := [mR 0 j 0, mI v1]) (pc' := 20) (ls' := [(0, mR 0 j 0), (1, mI v1)]) (r := [mI v1, mR 18 j 0]) rfl (Or.inr rfl)).trans ?_
    refine mi_bdc fun q1 => ?_
    refine (mx_if (c := q1.1 = 0) (p1 := 36) (l1 := [(0, mR 0 j 0), (1, mI v1)]) (s1 := [mI v1, mR 18 j 0]) (M1 := q1.2) (p2 := 23) (l2 := [(0, mR 0 j 0), (1, mI v1)]) (s2 := [mI v1, mR 18 j 0]) (M2 := q1.2) rfl).trans ?_
    refine mi_itc ?_ ?_
    · refine (mx_steps 1 (pc' := 39) (ls' := [(0, mR 0 j 0), (1, mI v1)]) (st' := [mI 1000, mI v1, mR 18 j 0]) (M' := q1.2) rfl).trans ?_
      refine (mx_ix (i := v1) (n := 10) (pc' := 40) (ls' := [(0, mR 0 j 0), (1, mI v1)]) (sf := fun k2 => []) (Mf := fun k2 => mi_set q1.2 2 j (0 + k2) 1000) rfl).trans ?_
      refine mi_bdc fun k2 => ?_
      refine (mx_steps 2 (pc' := 2) (ls' := [(0, mR 0 j 0), (1, mI (v1 + 1))]) (st' := []) (M' := mi_set q1.2 2 j (0 + k2) 1000) rfl).trans ?_
      rfl
    · refine (mx_steps 4 (pc' := 29) (ls' := [(0, mR 0 j 0), (1, mI v1)]) (st' := [mI v1, mR 13 j 0, mR 0 j 0, mI v1, mR 18 j 0]) (M' := q1.2) rfl).trans ?_
      refine (mx_ix (i := v1) (n := 10) (pc' := 30) (ls' := [(0, mR 0 j 0), (1, mI v1)]) (sf := fun k3 => [mR 14 j k3, mR 0 j 0, mI v1, mR 18 j 0]) (Mf := fun k3 => q1.2) rfl).trans ?_
      refine mi_bdc fun k3 => ?_
      refine (mx_callI (z := 19) (as := [mR 0 j 0, mR 14 j k3]) (pc' := 33) (ls' := [(0, mR 0 j 0), (1, mI v1)]) (r := [mI v1, mR 18 j 0]) rfl (Or.inl rfl)).trans ?_
      refine mi_bdc fun q4 => ?_
      refine (mx_steps 1 (pc' := 39) (ls' := [(0, mR 0 j 0), (1, mI v1)]) (st' := [mI q4.1, mI v1, mR 18 j 0]) (M' := q4.2) rfl).trans ?_
      refine (mx_ix (i := v1) (n := 10) (pc' := 40) (ls' := [(0, mR 0 j 0), (1, mI v1)]) (sf := fun k5 => []) (Mf := fun k5 => mi_set q4.2 2 j (0 + k5) q4.1) rfl).trans ?_
      refine mi_bdc fun k5 => ?_
      refine (mx_steps 2 (pc' := 2) (ls' := [(0, mR 0 j 0), (1, mI (v1 + 1))]) (st' := []) (M' := mi_set q4.2 2 j (0 + k5) q4.1) rfl).trans ?_
      rfl

set_option maxRecDepth 20000 in
theorem fN_lookOnce_L48_eq (j : Nat) (v1 : Int32) (M : mM) : fN_lookOnce_L48 j v1 M = (if (M.1 0 j 4) ≤ v1 then fN_lookOnce_L77 j 0 0 M else (mi_ix v1 6).bind fun k1 => (fN_find j k1 v1 M).bind fun M2 => fN_lookOnce_L48 j (v1 + 1) M2) := by
  refine (mx_steps 3 (pc' := 53) (ls' := [(0, mR 0 j 0), (1, mI v1)]) (st' := [mI (M.1 0 j 4), mI v1]) (M' := M) rfl).trans ?_
  refine (mx_if (c := (M.1 0 j 4) ≤ v1) (p1 := 73) (l1 := [(0, mR 0 j 0), (1, mI v1)]) (s1 := []) (M1 := M) (p2 := 56) (l2 := [(0, mR 0 j 0), (1, mI v1)]) (s2 := []) (M2 := M) rfl).trans ?_
  refine mi_itc ?_ ?_
  · refine (mx_steps 4 (pc' := 77) (ls' := [(0, mR 0 j 0), (1, mI 0), (2, mI 0)]) (st' := []) (M' := M) rfl).trans ?_
    rfl
  · refine (mx_steps 5 (pc' := 63) (ls' := [(0, mR 0 j 0), (1, mI v1)]) (st' := [mI v1, mR 16 j 0, mI v1, mR 0 j 0]) (M' := M) rfl).trans ?_
    refine (mx_ix (i := v1) (n := 6) (pc' := 64) (ls' := [(0, mR 0 j 0), (1, mI v1)]) (sf := fun k1 => [mR 17 j k1, mI v1, mR 0 j 0]) (Mf := fun k1 => M) rfl).trans ?_
    refine mi_bdc fun k1 => ?_
    refine (mx_callV (z := 20) (as := [mR 0 j 0, mI v1, mR 17 j k1]) (pc' := 67) (ls' := [(0, mR 0 j 0), (1, mI v1)]) (r := []) rfl rfl).trans ?_
    refine mi_bdc fun M2 => ?_
    refine (mx_steps 2 (pc' := 48) (ls' := [(0, mR 0 j 0), (1, mI (v1 + 1))]) (st' := []) (M' := M2) rfl).trans ?_
    rfl

set_option maxRecDepth 20000 in
theorem fN_lookOnce_L77_eq (j : Nat) (v1 : Int32) (v2 : Int32) (M : mM) : fN_lookOnce_L77 j v1 v2 M = (if (M.1 0 j 4) ≤ v2 then (if v1 = 0 ∨ v1 = 1 then some (v1, M) else none) else fN_lookOnce_L87 j v1 v2 0 M) := by
  refine (mx_steps 3 (pc' := 82) (ls' := [(0, mR 0 j 0), (1, mI v1), (2, mI v2)]) (st' := [mI (M.1 0 j 4), mI v2]) (M' := M) rfl).trans ?_
  refine (mx_if (c := (M.1 0 j 4) ≤ v2) (p1 := 149) (l1 := [(0, mR 0 j 0), (1, mI v1), (2, mI v2)]) (s1 := []) (M1 := M) (p2 := 85) (l2 := [(0, mR 0 j 0), (1, mI v1), (2, mI v2)]) (s2 := []) (M2 := M) rfl).trans ?_
  refine mi_itc ?_ ?_
  · refine (mx_steps 1 (pc' := 150) (ls' := [(0, mR 0 j 0), (1, mI v1), (2, mI v2)]) (st' := [mI v1]) (M' := M) rfl).trans ?_
    exact mx_retb rfl rfl
  · refine (mx_steps 2 (pc' := 87) (ls' := [(0, mR 0 j 0), (1, mI v1), (2, mI v2), (3, mI 0)]) (st' := []) (M' := M) rfl).trans ?_
    rfl

set_option maxRecDepth 20000 in
theorem fN_lookOnce_L87_eq (j : Nat) (v1 : Int32) (v2 : Int32) (v3 : Int32) (M : mM) : fN_lookOnce_L87 j v1 v2 v3 M = (if 4 ≤ v3 then fN_lookOnce_L77 j v1 (v2 + 1) M else (if ¬ v1 = 0 then fN_lookOnce_L115 j v2 v3 M else (mi_ix v2 6).bind fun k1 => (mi_ix v3 8).bind fun k2 => (mi_ix v2 6).bind fun k3 => (mi_ix v3 4).bind fun k4 => (if (M.1 0 j (6 + 8 * k1 + k2)) = (M.1 1 j (4 * k3 + k4)) then fN_lookOnce_L120 j v2 v3 0 M else fN_lookOnce_L115 j v2 v3 M))) := by
  refine (mx_steps 2 (pc' := 89) (ls' := [(0, mR 0 j 0), (1, mI v1), (2, mI v2), (3, mI v3)]) (st' := [mI 4, mI v3]) (M' := M) rfl).trans ?_
  refine (mx_if (c := 4 ≤ v3) (p1 := 143) (l1 := [(0, mR 0 j 0), (1, mI v1), (2, mI v2), (3, mI v3)]) (s1 := []) (M1 := M) (p2 := 92) (l2 := [(0, mR 0 j 0), (1, mI v1), (2, mI v2), (3, mI v3)]) (s2 := []) (M2 := M) rfl).trans ?_
  refine mi_itc ?_ ?_
  · refine (mx_steps 2 (pc' := 77) (ls' := [(0, mR 0 j 0), (1, mI v1), (2, mI (v2 + 1))]) (st' := []) (M' := M) rfl).trans ?_
    rfl
  · refine (mx_steps 1 (pc' := 93) (ls' := [(0, mR 0 j 0), (1, mI v1), (2, mI v2), (3, mI v3)]) (st' := [mI v1]) (M' := M) rfl).trans ?_
    refine (mx_if (c := ¬ v1 = 0) (p1 := 115) (l1 := [(0, mR 0 j 0), (2, mI v2), (3, mI v3)]) (s1 := []) (M1 := M) (p2 := 96) (l2 := [(0, mR 0 j 0), (1, mI v1), (2, mI v2), (3, mI v3)]) (s2 := []) (M2 := M) rfl).trans ?_
    refine mi_itc ?_ ?_
    · rfl
    · refine (mx_steps 3 (pc' := 101) (ls' := [(0, mR 0 j 0), (1, mI v1), (2, mI v2), (3, mI v3)]) (st' := [mI v2, mR 11 j 0]) (M' := M) rfl).trans ?_
      refine (mx_ix (i := v2) (n := 6) (pc' := 102) (ls' := [(0, mR 0 j 0), (1, mI v1), (2, mI v2), (3, mI v3)]) (sf := fun k1 => [mR 12 j k1]) (Mf := fun k1 => M) rfl).trans ?_
      refine mi_bdc fun k1 => ?_
      refine (mx_steps 1 (pc' := 103) (ls' := [(0, mR 0 j 0), (1, mI v1), (2, mI v2), (3, mI v3)]) (st' := [mI v3, mR 12 j k1]) (M' := M) rfl).trans ?_
      refine (mx_ix (i := v3) (n := 8) (pc' := 104) (ls' := [(0, mR 0 j 0), (1, mI v1), (2, mI v2), (3, mI v3)]) (sf := fun k2 => [mI (M.1 0 j (6 + 8 * k1 + k2))]) (Mf := fun k2 => M) rfl).trans ?_
      refine mi_bdc fun k2 => ?_
      refine (mx_steps 3 (pc' := 109) (ls' := [(0, mR 0 j 0), (1, mI v1), (2, mI v2), (3, mI v3)]) (st' := [mI v2, mR 16 j 0, mI (M.1 0 j (6 + 8 * k1 + k2))]) (M' := M) rfl).trans ?_
      refine (mx_ix (i := v2) (n := 6) (pc' := 110) (ls' := [(0, mR 0 j 0), (1, mI v1), (2, mI v2), (3, mI v3)]) (sf := fun k3 => [mR 17 j k3, mI (M.1 0 j (6 + 8 * k1 + k2))]) (Mf := fun k3 => M) rfl).trans ?_
      refine mi_bdc fun k3 => ?_
      refine (mx_steps 1 (pc' := 111) (ls' := [(0, mR 0 j 0), (1, mI v1), (2, mI v2), (3, mI v3)]) (st' := [mI v3, mR 17 j k3, mI (M.1 0 j (6 + 8 * k1 + k2))]) (M' := M) rfl).trans ?_
      refine (mx_ix (i := v3) (n := 4) (pc' := 112) (ls' := [(0, mR 0 j 0), (1, mI v1), (2, mI v2), (3, mI v3)]) (sf := fun k4 => [mI (M.1 1 j (4 * k3 + k4)), mI (M.1 0 j (6 + 8 * k1 + k2))]) (Mf := fun k4 => M) rfl).trans ?_
      refine mi_bdc fun k4 => ?_
      refine (mx_if (c := (M.1 0 j (6 + 8 * k1 + k2)) = (M.1 1 j (4 * k3 + k4))) (p1 := 119) (l1 := [(0, mR 0 j 0), (1, mI v1), (2, mI v2), (3, mI v3)]) (s1 := []) (M1 := M) (p2 := 115) (l2 := [(0, mR 0 j 0), (2, mI v2), (3, mI v3)]) (s2 := []) (M2 := M) rfl).trans ?_
      refine mi_itc ?_ ?_
      · refine (mx_steps 1 (pc' := 120) (ls' := [(0, mR 0 j 0), (2, mI v2), (3, mI v3)]) (st' := [mI 0]) (M' := M) rfl).trans ?_
        rfl
      · rfl

set_option maxRecDepth 20000 in
theorem fN_lookOnce_L115_eq (j : Nat) (v2 : Int32) (v3 : Int32) (M : mM) : fN_lookOnce_L115 j v2 v3 M = fN_lookOnce_L120 j v2 v3 1 M := by
  refine (mx_steps 2 (pc' := 120) (ls' := [(0, mR 0 j 0), (2, mI v2), (3, mI v3)]) (st' := [mI 1]) (M' := M) rfl).trans ?_
  rfl

set_option maxRecDepth 20000 in
theorem fN_lookOnce_L120_eq (j : Nat) (v2 : Int32) (v3 : Int32) (s0 : Int32) (M : mM) : fN_lookOnce_L120 j v2 v3 s0 M = (mi_ix v2 6).bind fun k1 => (mi_ix v2 6).bind fun k2 => (mi_ix v3 4).bind fun k3 => (mi_ix v3 8).bind fun k4 => fN_lookOnce_L87 j s0 v2 (v3 + 1) (mi_set M 0 j (6 + 8 * k1 + k4) (M.1 1 j (4 * k2 + k3))) := by
  refine (mx_steps 4 (pc' := 126) (ls' := [(0, mR 0 j 0), (1, mI s0), (2, mI v2), (3, mI v3)]) (st' := [mI v2, mR 11 j 0]) (M' := M) rfl).trans ?_
  refine (mx_ix (i := v2) (n := 6) (pc' := 127) (ls' := [(0, mR 0 j 0), (1, mI s0), (2, mI v2), (3, mI v3)]) (sf := fun k1 => [mR 12 j k1]) (Mf := fun k1 => M) rfl).trans ?_
  refine mi_bdc fun k1 => ?_
  refine (mx_steps 4 (pc' := 133) (ls' := [(0, mR 0 j 0), (1, mI s0), (2, mI v2), (3, mI v3)]) (st' := [mI v2, mR 16 j 0, mI v3, mR 12 j k1]) (M' := M) rfl).trans ?_
  refine (mx_ix (i := v2) (n := 6) (pc' := 134) (ls' := [(0, mR 0 j 0), (1, mI s0), (2, mI v2), (3, mI v3)]) (sf := fun k2 => [mR 17 j k2, mI v3, mR 12 j k1]) (Mf := fun k2 => M) rfl).trans ?_
  refine mi_bdc fun k2 => ?_
  refine (mx_steps 1 (pc' := 135) (ls' := [(0, mR 0 j 0), (1, mI s0), (2, mI v2), (3, mI v3)]) (st' := [mI v3, mR 17 j k2, mI v3, mR 12 j k1]) (M' := M) rfl).trans ?_
  refine (mx_ix (i := v3) (n := 4) (pc' := 136) (ls' := [(0, mR 0 j 0), (1, mI s0), (2, mI v2), (3, mI v3)]) (sf := fun k3 => [mI (M.1 1 j (4 * k2 + k3)), mI v3, mR 12 j k1]) (Mf := fun k3 => M) rfl).trans ?_
  refine mi_bdc fun k3 => ?_
  refine (mx_ix (i := v3) (n := 8) (pc' := 137) (ls' := [(0, mR 0 j 0), (1, mI s0), (2, mI v2), (3, mI v3)]) (sf := fun k4 => []) (Mf := fun k4 => mi_set M 0 j (6 + 8 * k1 + k4) (M.1 1 j (4 * k2 + k3))) rfl).trans ?_
  refine mi_bdc fun k4 => ?_
  refine (mx_steps 2 (pc' := 87) (ls' := [(0, mR 0 j 0), (1, mI s0), (2, mI v2), (3, mI (v3 + 1))]) (st' := []) (M' := mi_set M 0 j (6 + 8 * k1 + k4) (M.1 1 j (4 * k2 + k3))) rfl).trans ?_
  rfl

set_option maxRecDepth 20000 in
theorem fN_keyOf_eq (j : Nat) (i : Nat) (M : mM) : fN_keyOf j i M = (mi_ix 0 10).bind fun k1 => (mi_ix (M.1 0 j (54 + 10 * i + k1)) 6).bind fun k2 => (mi_ix 0 8).bind fun k3 => (mi_ix 1 8).bind fun k4 => (mi_ix 2 10).bind fun k5 => some (((100 * (M.1 0 j (6 + 8 * k2 + k3))) + (10 * ((M.1 0 j (6 + 8 * k2 + k4)) + 1))) + (M.1 0 j (54 + 10 * i + k5)), M) := by
  refine (mx_steps 4 (pc' := 6) (ls' := [(0, mR 0 j 0), (1, mR 14 j i)]) (st' := [mI 0, mR 14 j i, mR 11 j 0]) (M' := M) rfl).trans ?_
  refine (mx_ix (i := 0) (n := 10) (pc' := 7) (ls' := [(0, mR 0 j 0), (1, mR 14 j i)]) (sf := fun k1 => [mI (M.1 0 j (54 + 10 * i + k1)), mR 11 j 0]) (Mf := fun k1 => M) rfl).trans ?_
  refine mi_bdc fun k1 => ?_
  refine (mx_ix (i := M.1 0 j (54 + 10 * i + k1)) (n := 6) (pc' := 8) (ls' := [(0, mR 0 j 0), (1, mR 14 j i)]) (sf := fun k2 => [mR 12 j k2]) (Mf := fun k2 => M) rfl).trans ?_
  refine mi_bdc fun k2 => ?_
  refine (mx_steps 4 (pc' := 13) (ls' := [(0, mR 0 j 0), (1, mR 14 j i), (2, mR 12 j k2)]) (st' := [mI 0, mR 12 j k2, mI 100]) (M' := M) rfl).trans ?_
  refine (mx_ix (i := 0) (n := 8) (pc' := 14) (ls' := [(0, mR 0 j 0), (1, mR 14 j i), (2, mR 12 j k2)]) (sf := fun k3 => [mI (M.1 0 j (6 + 8 * k2 + k3)), mI 100]) (Mf := fun k3 => M) rfl).trans ?_
  refine mi_bdc fun k3 => ?_
  refine (mx_steps 4 (pc' := 19) (ls' := [(0, mR 0 j 0), (1, mR 14 j i), (2, mR 12 j k2)]) (st' := [mI 1, mR 12 j k2, mI 10, mI (100 * (M.1 0 j (6 + 8 * k2 + k3)))]) (M' := M) rfl).trans ?_
  refine (mx_ix (i := 1) (n := 8) (pc' := 20) (ls' := [(0, mR 0 j 0), (1, mR 14 j i), (2, mR 12 j k2)]) (sf := fun k4 => [mI (M.1 0 j (6 + 8 * k2 + k4)), mI 10, mI (100 * (M.1 0 j (6 + 8 * k2 + k3)))]) (Mf := fun k4 => M) rfl).trans ?_
  refine mi_bdc fun k4 => ?_
  refine (mx_steps 6 (pc' := 26) (ls' := [(0, mR 0 j 0), (1, mR 14 j i), (2, mR 12 j k2)]) (st' := [mI 2, mR 14 j i, mI ((100 * (M.1 0 j (6 + 8 * k2 + k3))) + (10 * ((M.1 0 j (6 + 8 * k2 + k4)) + 1)))]) (M' := M) rfl).trans ?_
  refine (mx_ix (i := 2) (n := 10) (pc' := 27) (ls' := [(0, mR 0 j 0), (1, mR 14 j i), (2, mR 12 j k2)]) (sf := fun k5 => [mI (M.1 0 j (54 + 10 * i + k5)), mI ((100 * (M.1 0 j (6 + 8 * k2 + k3))) + (10 * ((M.1 0 j (6 + 8 * k2 + k4)) + 1)))]) (Mf := fun k5 => M) rfl).trans ?_
  refine mi_bdc fun k5 => ?_
  refine (mx_steps 1 (pc' := 28) (ls' := [(0, mR 0 j 0), (1, mR 14 j i), (2, mR 12 j k2)]) (st' := [mI (((100 * (M.1 0 j (6 + 8 * k2 + k3))) + (10 * ((M.1 0 j (6 + 8 * k2 + k4)) + 1))) + (M.1 0 j (54 + 10 * i + k5)))]) (M' := M) rfl).trans ?_
  exact mx_ret rfl rfl

set_option maxRecDepth 20000 in
theorem fN_find_eq (j : Nat) (i : Nat) (a1 : Int32) (M : mM) : fN_find j i a1 M = (fN_bestLink j a1 M).bind fun q1 => (mi_ix 3 4).bind fun k2 => (if ¬ q1.1 = ((-1001)) then (mi_ix q1.1 10).bind fun k3 => (mi_ix 0 10).bind fun k4 => (mi_ix ((mi_set q1.2 1 j (4 * i + k2) q1.1).1 0 j (54 + 10 * k3 + k4)) 6).bind fun k5 => (mi_ix 0 8).bind fun k6 => (mi_ix 0 4).bind fun k7 => (mi_ix 1 8).bind fun k8 => (mi_ix 1 4).bind fun k9 => (mi_ix 2 8).bind fun k10 => (mi_ix 2 4).bind fun k11 => some (mi_set (mi_set (mi_set (mi_set q1.2 1 j (4 * i + k2) q1.1) 1 j (4 * i + k7) ((mi_set q1.2 1 j (4 * i + k2) q1.1).1 0 j (6 + 8 * k5 + k6))) 1 j (4 * i + k9) (((mi_set (mi_set q1.2 1 j (4 * i + k2) q1.1) 1 j (4 * i + k7) ((mi_set q1.2 1 j (4 * i + k2) q1.1).1 0 j (6 + 8 * k5 + k6))).1 0 j (6 + 8 * k5 + k8)) + 1)) 1 j (4 * i + k11) ((mi_set (mi_set (mi_set q1.2 1 j (4 * i + k2) q1.1) 1 j (4 * i + k7) ((mi_set q1.2 1 j (4 * i + k2) q1.1).1 0 j (6 + 8 * k5 + k6))) 1 j (4 * i + k9) (((mi_set (mi_set q1.2 1 j (4 * i + k2) q1.1) 1 j (4 * i + k7) ((mi_set q1.2 1 j (4 * i + k2) q1.1).1 0 j (6 + 8 * k5 + k6))).1 0 j (6 + 8 * k5 + k8)) + 1)).1 0 j (6 + 8 * k5 + k10))) else (mi_ix a1 6).bind fun k12 => (mi_ix 4 8).bind fun k13 => (mi_ix 0 4).bind fun k14 => (mi_ix 1 4).bind fun k15 => (mi_ix a1 6).bind fun k16 => (mi_ix 5 8).bind fun k17 => (mi_ix 2 4).bind fun k18 => some (mi_set (mi_set (mi_set (mi_set q1.2 1 j (4 * i + k2) q1.1) 1 j (4 * i + k14) ((mi_set q1.2 1 j (4 * i + k2) q1.1).1 0 j (6 + 8 * k12 + k13))) 1 j (4 * i + k15) 0) 1 j (4 * i + k18) ((mi_set (mi_set (mi_set q1.2 1 j (4 * i + k2) q1.1) 1 j (4 * i + k14) ((mi_set q1.2 1 j (4 * i + k2) q1.1).1 0 j (6 + 8 * k12 + k13))) 1 j (4 * i + k15) 0).1 0 j (6 + 8 * k16 + k17)))) := by
  refine (mx_steps 2 (pc' := 2) (ls' := [(0, mR 0 j 0), (1, mI a1), (2, mR 17 j i)]) (st' := [mI a1, mR 0 j 0]) (M' := M) rfl).trans ?_
  refine (mx_callI (z := 21) (as := [mR 0 j 0, mI a1]) (pc' := 5) (ls' := [(0, mR 0 j 0), (1, mI a1), (2, mR 17 j i)]) (r := []) rfl (Or.inl rfl)).trans ?_
  refine mi_bdc fun q1 => ?_
  refine (mx_steps 4 (pc' := 9) (ls' := [(0, mR 0 j 0), (1, mI a1), (2, mR 17 j i), (3, mI q1.1)]) (st' := [mI q1.1, mI 3, mR 17 j i]) (M' := q1.2) rfl).trans ?_
  refine (mx_ix (i := 3) (n := 4) (pc' := 10) (ls' := [(0, mR 0 j 0), (1, mI a1), (2, mR 17 j i), (3, mI q1.1)]) (sf := fun k2 => []) (Mf := fun k2 => mi_set q1.2 1 j (4 * i + k2) q1.1) rfl).trans ?_
  refine mi_bdc fun k2 => ?_
  refine (mx_steps 2 (pc' := 14) (ls' := [(0, mR 0 j 0), (1, mI a1), (2, mR 17 j i), (3, mI q1.1)]) (st' := [mI ((-1001)), mI q1.1]) (M' := mi_set q1.2 1 j (4 * i + k2) q1.1) rfl).trans ?_
  refine (mx_if (c := ¬ q1.1 = ((-1001))) (p1 := 46) (l1 := [(0, mR 0 j 0), (1, mI a1), (2, mR 17 j i), (3, mI q1.1)]) (s1 := []) (M1 := mi_set q1.2 1 j (4 * i + k2) q1.1) (p2 := 17) (l2 := [(0, mR 0 j 0), (1, mI a1), (2, mR 17 j i), (3, mI q1.1)]) (s2 := []) (M2 := mi_set q1.2 1 j (4 * i + k2) q1.1) rfl).trans ?_
  refine mi_itc ?_ ?_
  · refine (mx_steps 5 (pc' := 55) (ls' := [(0, mR 0 j 0), (1, mI a1), (2, mR 17 j i), (3, mI q1.1)]) (st' := [mI q1.1, mR 13 j 0, mR 11 j 0]) (M' := mi_set q1.2 1 j (4 * i + k2) q1.1) rfl).trans ?_
    refine (mx_ix (i := q1.1) (n := 10) (pc' := 56) (ls' := [(0, mR 0 j 0), (1, mI a1), (2, mR 17 j i), (3, mI q1.1)]) (sf := fun k3 => [mR 14 j k3, mR 11 j 0]) (Mf := fun k3 => mi_set q1.2 1 j (4 * i + k2) q1.1) rfl).trans ?_
    refine mi_bdc fun k3 => ?_
    refine (mx_steps 1 (pc' := 57) (ls' := [(0, mR 0 j 0), (1, mI a1), (2, mR 17 j i), (3, mI q1.1)]) (st' := [mI 0, mR 14 j k3, mR 11 j 0]) (M' := mi_set q1.2 1 j (4 * i + k2) q1.1) rfl).trans ?_
    refine (mx_ix (i := 0) (n := 10) (pc' := 58) (ls' := [(0, mR 0 j 0), (1, mI a1), (2, mR 17 j i), (3, mI q1.1)]) (sf := fun k4 => [mI ((mi_set q1.2 1 j (4 * i + k2) q1.1).1 0 j (54 + 10 * k3 + k4)), mR 11 j 0]) (Mf := fun k4 => mi_set q1.2 1 j (4 * i + k2) q1.1) rfl).trans ?_
    refine mi_bdc fun k4 => ?_
    refine (mx_ix (i := (mi_set q1.2 1 j (4 * i + k2) q1.1).1 0 j (54 + 10 * k3 + k4)) (n := 6) (pc' := 59) (ls' := [(0, mR 0 j 0), (1, mI a1), (2, mR 17 j i), (3, mI q1.1)]) (sf := fun k5 => [mR 12 j k5]) (Mf := fun k5 => mi_set q1.2 1 j (4 * i + k2) q1.1) rfl).trans ?_
    refine mi_bdc fun k5 => ?_
    refine (mx_steps 5 (pc' := 66) (ls' := [(0, mR 0 j 0), (1, mI a1), (2, mR 17 j i), (3, mI q1.1), (4, mR 12 j k5)]) (st' := [mI 0, mR 12 j k5, mI 0, mR 17 j i]) (M' := mi_set q1.2 1 j (4 * i + k2) q1.1) rfl).trans ?_
    refine (mx_ix (i := 0) (n := 8) (pc' := 67) (ls' := [(0, mR 0 j 0), (1, mI a1), (2, mR 17 j i), (3, mI q1.1), (4, mR 12 j k5)]) (sf := fun k6 => [mI ((mi_set q1.2 1 j (4 * i + k2) q1.1).1 0 j (6 + 8 * k5 + k6)), mI 0, mR 17 j i]) (Mf := fun k6 => mi_set q1.2 1 j (4 * i + k2) q1.1) rfl).trans ?_
    refine mi_bdc fun k6 => ?_
    refine (mx_ix (i := 0) (n := 4) (pc' := 68) (ls' := [(0, mR 0 j 0), (1, mI a1), (2, mR 17 j i), (3, mI q1.1), (4, mR 12 j k5)]) (sf := fun k7 => []) (Mf := fun k7 => mi_set (mi_set q1.2 1 j (4 * i + k2) q1.1) 1 j (4 * i + k7) ((mi_set q1.2 1 j (4 * i + k2) q1.1).1 0 j (6 + 8 * k5 + k6))) rfl).trans ?_
    refine mi_bdc fun k7 => ?_
    refine (mx_steps 4 (pc' := 73) (ls' := [(0, mR 0 j 0), (1, mI a1), (2, mR 17 j i), (3, mI q1.1), (4, mR 12 j k5)]) (st' := [mI 1, mR 12 j k5, mI 1, mR 17 j i]) (M' := mi_set (mi_set q1.2 1 j (4 * i + k2) q1.1) 1 j (4 * i + k7) ((mi_set q1.2 1 j (4 * i + k2) q1.1).1 0 j (6 + 8 * k5 + k6))) rfl).trans ?_
    refine (mx_ix (i := 1) (n := 8) (pc' := 74) (ls' := [(0, mR 0 j 0), (1, mI a1), (2, mR 17 j i), (3, mI q1.1), (4, mR 12 j k5)]) (sf := fun k8 => [mI ((mi_set (mi_set q1.2 1 j (4 * i + k2) q1.1) 1 j (4 * i + k7) ((mi_set q1.2 1 j (4 * i + k2) q1.1).1 0 j (6 + 8 * k5 + k6))).1 0 j (6 + 8 * k5 + k8)), mI 1, mR 17 j i]) (Mf := fun k8 => mi_set (mi_set q1.2 1 j (4 * i + k2) q1.1) 1 j (4 * i + k7) ((mi_set q1.2 1 j (4 * i + k2) q1.1).1 0 j (6 + 8 * k5 + k6))) rfl).trans ?_
    refine mi_bdc fun k8 => ?_
    refine (mx_steps 2 (pc' := 76) (ls' := [(0, mR 0 j 0), (1, mI a1), (2, mR 17 j i), (3, mI q1.1), (4, mR 12 j k5)]) (st' := [mI (((mi_set (mi_set q1.2 1 j (4 * i + k2) q1.1) 1 j (4 * i + k7) ((mi_set q1.2 1 j (4 * i + k2) q1.1).1 0 j (6 + 8 * k5 + k6))).1 0 j (6 + 8 * k5 + k8)) + 1), mI 1, mR 17 j i]) (M' := mi_set (mi_set q1.2 1 j (4 * i + k2) q1.1) 1 j (4 * i + k7) ((mi_set q1.2 1 j (4 * i + k2) q1.1).1 0 j (6 + 8 * k5 + k6))) rfl).trans ?_
    refine (mx_ix (i := 1) (n := 4) (pc' := 77) (ls' := [(0, mR 0 j 0), (1, mI a1), (2, mR 17 j i), (3, mI q1.1), (4, mR 12 j k5)]) (sf := fun k9 => []) (Mf := fun k9 => mi_set (mi_set (mi_set q1.2 1 j (4 * i + k2) q1.1) 1 j (4 * i + k7) ((mi_set q1.2 1 j (4 * i + k2) q1.1).1 0 j (6 + 8 * k5 + k6))) 1 j (4 * i + k9) (((mi_set (mi_set q1.2 1 j (4 * i + k2) q1.1) 1 j (4 * i + k7) ((mi_set q1.2 1 j (4 * i + k2) q1.1).1 0 j (6 + 8 * k5 + k6))).1 0 j (6 + 8 * k5 + k8)) + 1)) rfl).trans ?_
    refine mi_bdc fun k9 => ?_
    refine (mx_steps 4 (pc' := 82) (ls' := [(0, mR 0 j 0), (1, mI a1), (2, mR 17 j i), (3, mI q1.1), (4, mR 12 j k5)]) (st' := [mI 2, mR 12 j k5, mI 2, mR 17 j i]) (M' := mi_set (mi_set (mi_set q1.2 1 j (4 * i + k2) q1.1) 1 j (4 * i + k7) ((mi_set q1.2 1 j (4 * i + k2) q1.1).1 0 j (6 + 8 * k5 + k6))) 1 j (4 * i + k9) (((mi_set (mi_set q1.2 1 j (4 * i + k2) q1.1) 1 j (4 * i + k7) ((mi_set q1.2 1 j (4 * i + k2) q1.1).1 0 j (6 + 8 * k5 + k6))).1 0 j (6 + 8 * k5 + k8)) + 1)) rfl).trans ?_
    refine (mx_ix (i := 2) (n := 8) (pc' := 83) (ls' := [(0, mR 0 j 0), (1, mI a1), (2, mR 17 j i), (3, mI q1.1), (4, mR 12 j k5)]) (sf := fun k10 => [mI ((mi_set (mi_set (mi_set q1.2 1 j (4 * i + k2) q1.1) 1 j (4 * i + k7) ((mi_set q1.2 1 j (4 * i + k2) q1.1).1 0 j (6 + 8 * k5 + k6))) 1 j (4 * i + k9) (((mi_set (mi_set q1.2 1 j (4 * i + k2) q1.1) 1 j (4 * i + k7) ((mi_set q1.2 1 j (4 * i + k2) q1.1).1 0 j (6 + 8 * k5 + k6))).1 0 j (6 + 8 * k5 + k8)) + 1)).1 0 j (6 + 8 * k5 + k10)), mI 2, mR 17 j i]) (Mf := fun k10 => mi_set (mi_set (mi_set q1.2 1 j (4 * i + k2) q1.1) 1 j (4 * i + k7) ((mi_set q1.2 1 j (4 * i + k2) q1.1).1 0 j (6 + 8 * k5 + k6))) 1 j (4 * i + k9) (((mi_set (mi_set q1.2 1 j (4 * i + k2) q1.1) 1 j (4 * i + k7) ((mi_set q1.2 1 j (4 * i + k2) q1.1).1 0 j (6 + 8 * k5 + k6))).1 0 j (6 + 8 * k5 + k8)) + 1)) rfl).trans ?_
    refine mi_bdc fun k10 => ?_
    refine (mx_ix (i := 2) (n := 4) (pc' := 84) (ls' := [(0, mR 0 j 0), (1, mI a1), (2, mR 17 j i), (3, mI q1.1), (4, mR 12 j k5)]) (sf := fun k11 => []) (Mf := fun k11 => mi_set (mi_set (mi_set (mi_set q1.2 1 j (4 * i + k2) q1.1) 1 j (4 * i + k7) ((mi_set q1.2 1 j (4 * i + k2) q1.1).1 0 j (6 + 8 * k5 + k6))) 1 j (4 * i + k9) (((mi_set (mi_set q1.2 1 j (4 * i + k2) q1.1) 1 j (4 * i + k7) ((mi_set q1.2 1 j (4 * i + k2) q1.1).1 0 j (6 + 8 * k5 + k6))).1 0 j (6 + 8 * k5 + k8)) + 1)) 1 j (4 * i + k11) ((mi_set (mi_set (mi_set q1.2 1 j (4 * i + k2) q1.1) 1 j (4 * i + k7) ((mi_set q1.2 1 j (4 * i + k2) q1.1).1 0 j (6 + 8 * k5 + k6))) 1 j (4 * i + k9) (((mi_set (mi_set q1.2 1 j (4 * i + k2) q1.1) 1 j (4 * i + k7) ((mi_set q1.2 1 j (4 * i + k2) q1.1).1 0 j (6 + 8 * k5 + k6))).1 0 j (6 + 8 * k5 + k8)) + 1)).1 0 j (6 + 8 * k5 + k10))) rfl).trans ?_
    refine mi_bdc fun k11 => ?_
    exact mx_ret rfl rfl
  · refine (mx_steps 5 (pc' := 24) (ls' := [(0, mR 0 j 0), (1, mI a1), (2, mR 17 j i), (3, mI q1.1)]) (st' := [mI a1, mR 11 j 0, mI 0, mR 17 j i]) (M' := mi_set q1.2 1 j (4 * i + k2) q1.1) rfl).trans ?_
    refine (mx_ix (i := a1) (n := 6) (pc' := 25) (ls' := [(0, mR 0 j 0), (1, mI a1), (2, mR 17 j i), (3, mI q1.1)]) (sf := fun k12 => [mR 12 j k12, mI 0, mR 17 j i]) (Mf := fun k12 => mi_set q1.2 1 j (4 * i + k2) q1.1) rfl).trans ?_
    refine mi_bdc fun k12 => ?_
    refine (mx_steps 1 (pc' := 26) (ls' := [(0, mR 0 j 0), (1, mI a1), (2, mR 17 j i), (3, mI q1.1)]) (st' := [mI 4, mR 12 j k12, mI 0, mR 17 j i]) (M' := mi_set q1.2 1 j (4 * i + k2) q1.1) rfl).trans ?_
    refine (mx_ix (i := 4) (n := 8) (pc' := 27) (ls' := [(0, mR 0 j 0), (1, mI a1), (2, mR 17 j i), (3, mI q1.1)]) (sf := fun k13 => [mI ((mi_set q1.2 1 j (4 * i + k2) q1.1).1 0 j (6 + 8 * k12 + k13)), mI 0, mR 17 j i]) (Mf := fun k13 => mi_set q1.2 1 j (4 * i + k2) q1.1) rfl).trans ?_
    refine mi_bdc fun k13 => ?_
    refine (mx_ix (i := 0) (n := 4) (pc' := 28) (ls' := [(0, mR 0 j 0), (1, mI a1), (2, mR 17 j i), (3, mI q1.1)]) (sf := fun k14 => []) (Mf := fun k14 => mi_set (mi_set q1.2 1 j (4 * i + k2) q1.1) 1 j (4 * i + k14) ((mi_set q1.2 1 j (4 * i + k2) q1.1).1 0 j (6 + 8 * k12 + k13))) rfl).trans ?_
    refine mi_bdc fun k14 => ?_
    refine (mx_steps 3 (pc' := 31) (ls' := [(0, mR 0 j 0), (1, mI a1), (2, mR 17 j i), (3, mI q1.1)]) (st' := [mI 0, mI 1, mR 17 j i]) (M' := mi_set (mi_set q1.2 1 j (4 * i + k2) q1.1) 1 j (4 * i + k14) ((mi_set q1.2 1 j (4 * i + k2) q1.1).1 0 j (6 + 8 * k12 + k13))) rfl).trans ?_
    refine (mx_ix (i := 1) (n := 4) (pc' := 32) (ls' := [(0, mR 0 j 0), (1, mI a1), (2, mR 17 j i), (3, mI q1.1)]) (sf := fun k15 => []) (Mf := fun k15 => mi_set (mi_set (mi_set q1.2 1 j (4 * i + k2) q1.1) 1 j (4 * i + k14) ((mi_set q1.2 1 j (4 * i + k2) q1.1).1 0 j (6 + 8 * k12 + k13))) 1 j (4 * i + k15) 0) rfl).trans ?_
    refine mi_bdc fun k15 => ?_
    refine (mx_steps 5 (pc' := 39) (ls' := [(0, mR 0 j 0), (1, mI a1), (2, mR 17 j i), (3, mI q1.1)]) (st' := [mI a1, mR 11 j 0, mI 2, mR 17 j i]) (M' := mi_set (mi_set (mi_set q1.2 1 j (4 * i + k2) q1.1) 1 j (4 * i + k14) ((mi_set q1.2 1 j (4 * i + k2) q1.1).1 0 j (6 + 8 * k12 + k13))) 1 j (4 * i + k15) 0) rfl).trans ?_
    refine (mx_ix (i := a1) (n := 6) (pc' := 40) (ls' := [(0, mR 0 j 0), (1, mI a1), (2, mR 17 j i), (3, mI q1.1)]) (sf := fun k16 => [mR 12 j k16, mI 2, mR 17 j i]) (Mf := fun k16 => mi_set (mi_set (mi_set q1.2 1 j (4 * i + k2) q1.1) 1 j (4 * i + k14) ((mi_set q1.2 1 j (4 * i + k2) q1.1).1 0 j (6 + 8 * k12 + k13))) 1 j (4 * i + k15) 0) rfl).trans ?_
    refine mi_bdc fun k16 => ?_
    refine (mx_steps 1 (pc' := 41) (ls' := [(0, mR 0 j 0), (1, mI a1), (2, mR 17 j i), (3, mI q1.1)]) (st' := [mI 5, mR 12 j k16, mI 2, mR 17 j i]) (M' := mi_set (mi_set (mi_set q1.2 1 j (4 * i + k2) q1.1) 1 j (4 * i + k14) ((mi_set q1.2 1 j (4 * i + k2) q1.1).1 0 j (6 + 8 * k12 + k13))) 1 j (4 * i + k15) 0) rfl).trans ?_
    refine (mx_ix (i := 5) (n := 8) (pc' := 42) (ls' := [(0, mR 0 j 0), (1, mI a1), (2, mR 17 j i), (3, mI q1.1)]) (sf := fun k17 => [mI ((mi_set (mi_set (mi_set q1.2 1 j (4 * i + k2) q1.1) 1 j (4 * i + k14) ((mi_set q1.2 1 j (4 * i + k2) q1.1).1 0 j (6 + 8 * k12 + k13))) 1 j (4 * i + k15) 0).1 0 j (6 + 8 * k16 + k17)), mI 2, mR 17 j i]) (Mf := fun k17 => mi_set (mi_set (mi_set q1.2 1 j (4 * i + k2) q1.1) 1 j (4 * i + k14) ((mi_set q1.2 1 j (4 * i + k2) q1.1).1 0 j (6 + 8 * k12 + k13))) 1 j (4 * i + k15) 0) rfl).trans ?_
    refine mi_bdc fun k17 => ?_
    refine (mx_ix (i := 2) (n := 4) (pc' := 43) (ls' := [(0, mR 0 j 0), (1, mI a1), (2, mR 17 j i), (3, mI q1.1)]) (sf := fun k18 => []) (Mf := fun k18 => mi_set (mi_set (mi_set (mi_set q1.2 1 j (4 * i + k2) q1.1) 1 j (4 * i + k14) ((mi_set q1.2 1 j (4 * i + k2) q1.1).1 0 j (6 + 8 * k12 + k13))) 1 j (4 * i + k15) 0) 1 j (4 * i + k18) ((mi_set (mi_set (mi_set q1.2 1 j (4 * i + k2) q1.1) 1 j (4 * i + k14) ((mi_set q1.2 1 j (4 * i + k2) q1.1).1 0 j (6 + 8 * k12 + k13))) 1 j (4 * i + k15) 0).1 0 j (6 + 8 * k16 + k17))) rfl).trans ?_
    refine mi_bdc fun k18 => ?_
    refine (mx_steps 1 (pc' := 84) (ls' := [(0, mR 0 j 0), (1, mI a1), (2, mR 17 j i), (3, mI q1.1)]) (st' := []) (M' := mi_set (mi_set (mi_set (mi_set q1.2 1 j (4 * i + k2) q1.1) 1 j (4 * i + k14) ((mi_set q1.2 1 j (4 * i + k2) q1.1).1 0 j (6 + 8 * k12 + k13))) 1 j (4 * i + k15) 0) 1 j (4 * i + k18) ((mi_set (mi_set (mi_set q1.2 1 j (4 * i + k2) q1.1) 1 j (4 * i + k14) ((mi_set q1.2 1 j (4 * i + k2) q1.1).1 0 j (6 + 8 * k12 + k13))) 1 j (4 * i + k15) 0).1 0 j (6 + 8 * k16 + k17))) rfl).trans ?_
    exact mx_ret rfl rfl

set_option maxRecDepth 20000 in
theorem fN_bestLink_eq (j : Nat) (a1 : Int32) (M : mM) : fN_bestLink j a1 M = (mi_ix a1 6).bind fun k1 => (mi_ix 4 8).bind fun k2 => fN_bestLink_L19 j a1 ((-1001)) (100 * (M.1 0 j (6 + 8 * k1 + k2))) 0 M := by
  refine (mx_steps 6 (pc' := 11) (ls' := [(0, mR 0 j 0), (1, mI a1), (2, mI ((-1001)))]) (st' := [mI a1, mR 11 j 0, mI 100]) (M' := M) rfl).trans ?_
  refine (mx_ix (i := a1) (n := 6) (pc' := 12) (ls' := [(0, mR 0 j 0), (1, mI a1), (2, mI ((-1001)))]) (sf := fun k1 => [mR 12 j k1, mI 100]) (Mf := fun k1 => M) rfl).trans ?_
  refine mi_bdc fun k1 => ?_
  refine (mx_steps 1 (pc' := 13) (ls' := [(0, mR 0 j 0), (1, mI a1), (2, mI ((-1001)))]) (st' := [mI 4, mR 12 j k1, mI 100]) (M' := M) rfl).trans ?_
  refine (mx_ix (i := 4) (n := 8) (pc' := 14) (ls' := [(0, mR 0 j 0), (1, mI a1), (2, mI ((-1001)))]) (sf := fun k2 => [mI (M.1 0 j (6 + 8 * k1 + k2)), mI 100]) (Mf := fun k2 => M) rfl).trans ?_
  refine mi_bdc fun k2 => ?_
  refine (mx_steps 4 (pc' := 19) (ls' := [(0, mR 0 j 0), (1, mI a1), (2, mI ((-1001))), (3, mI (100 * (M.1 0 j (6 + 8 * k1 + k2)))), (4, mI 0)]) (st' := []) (M' := M) rfl).trans ?_
  rfl

set_option maxRecDepth 20000 in
theorem fN_bestLink_L19_eq (j : Nat) (v1 : Int32) (v2 : Int32) (v3 : Int32) (v4 : Int32) (M : mM) : fN_bestLink_L19 j v1 v2 v3 v4 M = (if (M.1 0 j 5) ≤ v4 then some (v2, M) else (mi_ix v4 10).bind fun k1 => (mi_ix 1 10).bind fun k2 => (if ¬ (M.1 0 j (54 + 10 * k1 + k2)) = v1 then fN_bestLink_L19 j v1 v2 v3 (v4 + 1) M else (mi_ix v4 10).bind fun k3 => (if v3 ≤ (M.1 2 j (0 + k3)) then fN_bestLink_L19 j v1 v2 v3 (v4 + 1) M else (mi_ix v4 10).bind fun k4 => fN_bestLink_L19 j v1 v4 (M.1 2 j (0 + k4)) (v4 + 1) M))) := by
  refine (mx_steps 3 (pc' := 25) (ls' := [(0, mR 0 j 0), (1, mI v1), (2, mI v2), (3, mI v3), (4, mI v4)]) (st' := [mI (M.1 0 j 5), mI v4]) (M' := M) rfl).trans ?_
  refine (mx_if (c := (M.1 0 j 5) ≤ v4) (p1 := 69) (l1 := [(0, mR 0 j 0), (1, mI v1), (2, mI v2), (3, mI v3), (4, mI v4)]) (s1 := []) (M1 := M) (p2 := 28) (l2 := [(0, mR 0 j 0), (1, mI v1), (2, mI v2), (3, mI v3), (4, mI v4)]) (s2 := []) (M2 := M) rfl).trans ?_
  refine mi_itc ?_ ?_
  · refine (mx_steps 1 (pc' := 70) (ls' := [(0, mR 0 j 0), (1, mI v1), (2, mI v2), (3, mI v3), (4, mI v4)]) (st' := [mI v2]) (M' := M) rfl).trans ?_
    exact mx_ret rfl rfl
  · refine (mx_steps 3 (pc' := 34) (ls' := [(0, mR 0 j 0), (1, mI v1), (2, mI v2), (3, mI v3), (4, mI v4)]) (st' := [mI v4, mR 13 j 0]) (M' := M) rfl).trans ?_
    refine (mx_ix (i := v4) (n := 10) (pc' := 35) (ls' := [(0, mR 0 j 0), (1, mI v1), (2, mI v2), (3, mI v3), (4, mI v4)]) (sf := fun k1 => [mR 14 j k1]) (Mf := fun k1 => M) rfl).trans ?_
    refine mi_bdc fun k1 => ?_
    refine (mx_steps 1 (pc' := 36) (ls' := [(0, mR 0 j 0), (1, mI v1), (2, mI v2), (3, mI v3), (4, mI v4)]) (st' := [mI 1, mR 14 j k1]) (M' := M) rfl).trans ?_
    refine (mx_ix (i := 1) (n := 10) (pc' := 37) (ls' := [(0, mR 0 j 0), (1, mI v1), (2, mI v2), (3, mI v3), (4, mI v4)]) (sf := fun k2 => [mI (M.1 0 j (54 + 10 * k1 + k2))]) (Mf := fun k2 => M) rfl).trans ?_
    refine mi_bdc fun k2 => ?_
    refine (mx_steps 1 (pc' := 38) (ls' := [(0, mR 0 j 0), (1, mI v1), (2, mI v2), (3, mI v3), (4, mI v4)]) (st' := [mI v1, mI (M.1 0 j (54 + 10 * k1 + k2))]) (M' := M) rfl).trans ?_
    refine (mx_if (c := ¬ (M.1 0 j (54 + 10 * k1 + k2)) = v1) (p1 := 63) (l1 := [(0, mR 0 j 0), (1, mI v1), (2, mI v2), (3, mI v3), (4, mI v4)]) (s1 := []) (M1 := M) (p2 := 41) (l2 := [(0, mR 0 j 0), (1, mI v1), (2, mI v2), (3, mI v3), (4, mI v4)]) (s2 := []) (M2 := M) rfl).trans ?_
    refine mi_itc ?_ ?_
    · refine (mx_steps 2 (pc' := 19) (ls' := [(0, mR 0 j 0), (1, mI v1), (2, mI v2), (3, mI v3), (4, mI (v4 + 1))]) (st' := []) (M' := M) rfl).trans ?_
      rfl
    · refine (mx_steps 3 (pc' := 47) (ls' := [(0, mR 0 j 0), (1, mI v1), (2, mI v2), (3, mI v3), (4, mI v4)]) (st' := [mI v4, mR 18 j 0]) (M' := M) rfl).trans ?_
      refine (mx_ix (i := v4) (n := 10) (pc' := 48) (ls' := [(0, mR 0 j 0), (1, mI v1), (2, mI v2), (3, mI v3), (4, mI v4)]) (sf := fun k3 => [mI (M.1 2 j (0 + k3))]) (Mf := fun k3 => M) rfl).trans ?_
      refine mi_bdc fun k3 => ?_
      refine (mx_steps 1 (pc' := 49) (ls' := [(0, mR 0 j 0), (1, mI v1), (2, mI v2), (3, mI v3), (4, mI v4)]) (st' := [mI v3, mI (M.1 2 j (0 + k3))]) (M' := M) rfl).trans ?_
      refine (mx_if (c := v3 ≤ (M.1 2 j (0 + k3))) (p1 := 63) (l1 := [(0, mR 0 j 0), (1, mI v1), (2, mI v2), (3, mI v3), (4, mI v4)]) (s1 := []) (M1 := M) (p2 := 52) (l2 := [(0, mR 0 j 0), (1, mI v1), (2, mI v2), (3, mI v3), (4, mI v4)]) (s2 := []) (M2 := M) rfl).trans ?_
      refine mi_itc ?_ ?_
      · refine (mx_steps 2 (pc' := 19) (ls' := [(0, mR 0 j 0), (1, mI v1), (2, mI v2), (3, mI v3), (4, mI (v4 + 1))]) (st' := []) (M' := M) rfl).trans ?_
        rfl
      · refine (mx_steps 5 (pc' := 61) (ls' := [(0, mR 0 j 0), (1, mI v1), (2, mI v4), (3, mI v3), (4, mI v4)]) (st' := [mI v4, mR 18 j 0]) (M' := M) rfl).trans ?_
        refine (mx_ix (i := v4) (n := 10) (pc' := 62) (ls' := [(0, mR 0 j 0), (1, mI v1), (2, mI v4), (3, mI v3), (4, mI v4)]) (sf := fun k4 => [mI (M.1 2 j (0 + k4))]) (Mf := fun k4 => M) rfl).trans ?_
        refine mi_bdc fun k4 => ?_
        refine (mx_steps 3 (pc' := 19) (ls' := [(0, mR 0 j 0), (1, mI v1), (2, mI v4), (3, mI (M.1 2 j (0 + k4))), (4, mI (v4 + 1))]) (st' := []) (M' := M) rfl).trans ?_
        rfl

set_option maxRecDepth 20000 in
theorem fN_tickOnce_eq (j : Nat) (M : mM) : fN_tickOnce j M = fN_tickOnce_L2 j 0 M := by
  refine (mx_steps 2 (pc' := 2) (ls' := [(0, mR 0 j 0), (1, mI 0)]) (st' := []) (M' := M) rfl).trans ?_
  rfl

set_option maxRecDepth 20000 in
theorem fN_tickOnce_L2_eq (j : Nat) (v1 : Int32) (M : mM) : fN_tickOnce_L2 j v1 M = (if (M.1 0 j 4) ≤ v1 then fN_tickOnce_L68 j 0 0 M else (mi_ix v1 6).bind fun k1 => (mi_ix 6 8).bind fun k2 => (mi_ix v1 6).bind fun k3 => (mi_ix 2 8).bind fun k4 => (mi_ix v1 6).bind fun k5 => (mi_ix 7 8).bind fun k6 => (mi_ix v1 6).bind fun k7 => (mi_ix 6 8).bind fun k8 => fN_tickOnce_L2 j (v1 + 1) (mi_set (mi_set M 0 j (6 + 8 * k5 + k6) (8 + (((M.1 0 j (6 + 8 * k1 + k2)) + (M.1 0 j (6 + 8 * k3 + k4))) / 100))) 0 j (6 + 8 * k7 + k8) (((M.1 0 j (6 + 8 * k1 + k2)) + (M.1 0 j (6 + 8 * k3 + k4))) - ((M.1 0 j (6 + 8 * k1 + k2)) + (M.1 0 j (6 + 8 * k3 + k4))) / 100 * 100))) := by
  refine (mx_steps 3 (pc' := 7) (ls' := [(0, mR 0 j 0), (1, mI v1)]) (st' := [mI (M.1 0 j 4), mI v1]) (M' := M) rfl).trans ?_
  refine (mx_if (c := (M.1 0 j 4) ≤ v1) (p1 := 64) (l1 := [(0, mR 0 j 0), (1, mI v1)]) (s1 := []) (M1 := M) (p2 := 10) (l2 := [(0, mR 0 j 0), (1, mI v1)]) (s2 := []) (M2 := M) rfl).trans ?_
  refine mi_itc ?_ ?_
  · refine (mx_steps 4 (pc' := 68) (ls' := [(0, mR 0 j 0), (1, mI 0), (2, mI 0)]) (st' := []) (M' := M) rfl).trans ?_
    rfl
  · refine (mx_steps 3 (pc' := 15) (ls' := [(0, mR 0 j 0), (1, mI v1)]) (st' := [mI v1, mR 11 j 0]) (M' := M) rfl).trans ?_
    refine (mx_ix (i := v1) (n := 6) (pc' := 16) (ls' := [(0, mR 0 j 0), (1, mI v1)]) (sf := fun k1 => [mR 12 j k1]) (Mf := fun k1 => M) rfl).trans ?_
    refine mi_bdc fun k1 => ?_
    refine (mx_steps 1 (pc' := 18) (ls' := [(0, mR 0 j 0), (1, mI v1)]) (st' := [mI 6, mR 12 j k1]) (M' := M) rfl).trans ?_
    refine (mx_ix (i := 6) (n := 8) (pc' := 19) (ls' := [(0, mR 0 j 0), (1, mI v1)]) (sf := fun k2 => [mI (M.1 0 j (6 + 8 * k1 + k2))]) (Mf := fun k2 => M) rfl).trans ?_
    refine mi_bdc fun k2 => ?_
    refine (mx_steps 3 (pc' := 24) (ls' := [(0, mR 0 j 0), (1, mI v1)]) (st' := [mI v1, mR 11 j 0, mI (M.1 0 j (6 + 8 * k1 + k2))]) (M' := M) rfl).trans ?_
    refine (mx_ix (i := v1) (n := 6) (pc' := 25) (ls' := [(0, mR 0 j 0), (1, mI v1)]) (sf := fun k3 => [mR 12 j k3, mI (M.1 0 j (6 + 8 * k1 + k2))]) (Mf := fun k3 => M) rfl).trans ?_
    refine mi_bdc fun k3 => ?_
    refine (mx_steps 1 (pc' := 26) (ls' := [(0, mR 0 j 0), (1, mI v1)]) (st' := [mI 2, mR 12 j k3, mI (M.1 0 j (6 + 8 * k1 + k2))]) (M' := M) rfl).trans ?_
    refine (mx_ix (i := 2) (n := 8) (pc' := 27) (ls' := [(0, mR 0 j 0), (1, mI v1)]) (sf := fun k4 => [mI (M.1 0 j (6 + 8 * k3 + k4)), mI (M.1 0 j (6 + 8 * k1 + k2))]) (Mf := fun k4 => M) rfl).trans ?_
    refine mi_bdc fun k4 => ?_
    refine (mx_steps 5 (pc' := 34) (ls' := [(0, mR 0 j 0), (1, mI v1), (2, mI ((M.1 0 j (6 + 8 * k1 + k2)) + (M.1 0 j (6 + 8 * k3 + k4))))]) (st' := [mI v1, mR 11 j 0]) (M' := M) rfl).trans ?_
    refine (mx_ix (i := v1) (n := 6) (pc' := 35) (ls' := [(0, mR 0 j 0), (1, mI v1), (2, mI ((M.1 0 j (6 + 8 * k1 + k2)) + (M.1 0 j (6 + 8 * k3 + k4))))]) (sf := fun k5 => [mR 12 j k5]) (Mf := fun k5 => M) rfl).trans ?_
    refine mi_bdc fun k5 => ?_
    refine (mx_steps 6 (pc' := 44) (ls' := [(0, mR 0 j 0), (1, mI v1), (2, mI ((M.1 0 j (6 + 8 * k1 + k2)) + (M.1 0 j (6 + 8 * k3 + k4))))]) (st' := [mI (8 + (((M.1 0 j (6 + 8 * k1 + k2)) + (M.1 0 j (6 + 8 * k3 + k4))) / 100)), mI 7, mR 12 j k5]) (M' := M) rfl).trans ?_
    refine (mx_ix (i := 7) (n := 8) (pc' := 45) (ls' := [(0, mR 0 j 0), (1, mI v1), (2, mI ((M.1 0 j (6 + 8 * k1 + k2)) + (M.1 0 j (6 + 8 * k3 + k4))))]) (sf := fun k6 => []) (Mf := fun k6 => mi_set M 0 j (6 + 8 * k5 + k6) (8 + (((M.1 0 j (6 + 8 * k1 + k2)) + (M.1 0 j (6 + 8 * k3 + k4))) / 100))) rfl).trans ?_
    refine mi_bdc fun k6 => ?_
    refine (mx_steps 3 (pc' := 50) (ls' := [(0, mR 0 j 0), (1, mI v1), (2, mI ((M.1 0 j (6 + 8 * k1 + k2)) + (M.1 0 j (6 + 8 * k3 + k4))))]) (st' := [mI v1, mR 11 j 0]) (M' := mi_set M 0 j (6 + 8 * k5 + k6) (8 + (((M.1 0 j (6 + 8 * k1 + k2)) + (M.1 0 j (6 + 8 * k3 + k4))) / 100))) rfl).trans ?_
    refine (mx_ix (i := v1) (n := 6) (pc' := 51) (ls' := [(0, mR 0 j 0), (1, mI v1), (2, mI ((M.1 0 j (6 + 8 * k1 + k2)) + (M.1 0 j (6 + 8 * k3 + k4))))]) (sf := fun k7 => [mR 12 j k7]) (Mf := fun k7 => mi_set M 0 j (6 + 8 * k5 + k6) (8 + (((M.1 0 j (6 + 8 * k1 + k2)) + (M.1 0 j (6 + 8 * k3 + k4))) / 100))) rfl).trans ?_
    refine mi_bdc fun k7 => ?_
    refine (mx_steps 4 (pc' := 57) (ls' := [(0, mR 0 j 0), (1, mI v1), (2, mI ((M.1 0 j (6 + 8 * k1 + k2)) + (M.1 0 j (6 + 8 * k3 + k4))))]) (st' := [mI (((M.1 0 j (6 + 8 * k1 + k2)) + (M.1 0 j (6 + 8 * k3 + k4))) - ((M.1 0 j (6 + 8 * k1 + k2)) + (M.1 0 j (6 + 8 * k3 + k4))) / 100 * 100), mI 6, mR 12 j k7]) (M' := mi_set M 0 j (6 + 8 * k5 + k6) (8 + (((M.1 0 j (6 + 8 * k1 + k2)) + (M.1 0 j (6 + 8 * k3 + k4))) / 100))) rfl).trans ?_
    refine (mx_ix (i := 6) (n := 8) (pc' := 58) (ls' := [(0, mR 0 j 0), (1, mI v1), (2, mI ((M.1 0 j (6 + 8 * k1 + k2)) + (M.1 0 j (6 + 8 * k3 + k4))))]) (sf := fun k8 => []) (Mf := fun k8 => mi_set (mi_set M 0 j (6 + 8 * k5 + k6) (8 + (((M.1 0 j (6 + 8 * k1 + k2)) + (M.1 0 j (6 + 8 * k3 + k4))) / 100))) 0 j (6 + 8 * k7 + k8) (((M.1 0 j (6 + 8 * k1 + k2)) + (M.1 0 j (6 + 8 * k3 + k4))) - ((M.1 0 j (6 + 8 * k1 + k2)) + (M.1 0 j (6 + 8 * k3 + k4))) / 100 * 100)) rfl).trans ?_
    refine mi_bdc fun k8 => ?_
    refine (mx_steps 2 (pc' := 2) (ls' := [(0, mR 0 j 0), (1, mI (v1 + 1))]) (st' := []) (M' := mi_set (mi_set M 0 j (6 + 8 * k5 + k6) (8 + (((M.1 0 j (6 + 8 * k1 + k2)) + (M.1 0 j (6 + 8 * k3 + k4))) / 100))) 0 j (6 + 8 * k7 + k8) (((M.1 0 j (6 + 8 * k1 + k2)) + (M.1 0 j (6 + 8 * k3 + k4))) - ((M.1 0 j (6 + 8 * k1 + k2)) + (M.1 0 j (6 + 8 * k3 + k4))) / 100 * 100)) rfl).trans ?_
    rfl

set_option maxRecDepth 20000 in
theorem fN_tickOnce_L68_eq (j : Nat) (v1 : Int32) (v2 : Int32) (M : mM) : fN_tickOnce_L68 j v1 v2 M = (if (M.1 0 j 5) ≤ v2 then some (v1, mi_set M 0 j 3 ((M.1 0 j 3) + 1)) else (mi_ix v2 10).bind fun k1 => (fN_moveStore j k1 M).bind fun q2 => fN_tickOnce_L68 j (v1 + q2.1) (v2 + 1) q2.2) := by
  refine (mx_steps 3 (pc' := 73) (ls' := [(0, mR 0 j 0), (1, mI v1), (2, mI v2)]) (st' := [mI (M.1 0 j 5), mI v2]) (M' := M) rfl).trans ?_
  refine (mx_if (c := (M.1 0 j 5) ≤ v2) (p1 := 95) (l1 := [(0, mR 0 j 0), (1, mI v1), (2, mI v2)]) (s1 := []) (M1 := M) (p2 := 76) (l2 := [(0, mR 0 j 0), (1, mI v1), (2, mI v2)]) (s2 := []) (M2 := M) rfl).trans ?_
  refine mi_itc ?_ ?_
  · refine (mx_steps 7 (pc' := 106) (ls' := [(0, mR 0 j 0), (1, mI v1), (2, mI v2)]) (st' := [mI v1]) (M' := mi_set M 0 j 3 ((M.1 0 j 3) + 1)) rfl).trans ?_
    exact mx_ret rfl rfl
  · refine (mx_steps 5 (pc' := 83) (ls' := [(0, mR 0 j 0), (1, mI v1), (2, mI v2)]) (st' := [mI v2, mR 13 j 0, mR 0 j 0, mI v1]) (M' := M) rfl).trans ?_
    refine (mx_ix (i := v2) (n := 10) (pc' := 84) (ls' := [(0, mR 0 j 0), (1, mI v1), (2, mI v2)]) (sf := fun k1 => [mR 14 j k1, mR 0 j 0, mI v1]) (Mf := fun k1 => M) rfl).trans ?_
    refine mi_bdc fun k1 => ?_
    refine (mx_callI (z := 23) (as := [mR 0 j 0, mR 14 j k1]) (pc' := 87) (ls' := [(0, mR 0 j 0), (1, mI v1), (2, mI v2)]) (r := [mI v1]) rfl (Or.inl rfl)).trans ?_
    refine mi_bdc fun q2 => ?_
    refine (mx_steps 4 (pc' := 68) (ls' := [(0, mR 0 j 0), (1, mI (v1 + q2.1)), (2, mI (v2 + 1))]) (st' := []) (M' := q2.2) rfl).trans ?_
    rfl

set_option maxRecDepth 20000 in
theorem fN_moveStore_eq (j : Nat) (i : Nat) (M : mM) : fN_moveStore j i M = (mi_ix 0 3).bind fun k1 => (mi_ix 4 10).bind fun k2 => (mi_ix 0 10).bind fun k3 => (mi_ix (M.1 0 j (54 + 10 * i + k3)) 6).bind fun k4 => (mi_ix 7 8).bind fun k5 => (mi_ix 1 10).bind fun k6 => (mi_ix (M.1 0 j (54 + 10 * i + k6)) 6).bind fun k7 => (mi_ix 7 8).bind fun k8 => (if (((M.1 0 j (54 + 10 * i + k2)) + (M.1 0 j (6 + 8 * k4 + k5))) - (M.1 0 j (6 + 8 * k7 + k8))) ≤ (2 * (M.1 0 j (0 + k1))) then (if 0 ≤ (((M.1 0 j (54 + 10 * i + k2)) + (M.1 0 j (6 + 8 * k4 + k5))) - (M.1 0 j (6 + 8 * k7 + k8))) then fN_moveStore_L81 j i (M.1 0 j (0 + k1)) (((M.1 0 j (54 + 10 * i + k2)) + (M.1 0 j (6 + 8 * k4 + k5))) - (M.1 0 j (6 + 8 * k7 + k8))) 0 M else (mi_ix 6 10).bind fun k9 => (mi_ix 6 10).bind fun k10 => fN_moveStore_L81 j i (M.1 0 j (0 + k1)) ((((M.1 0 j (54 + 10 * i + k2)) + (M.1 0 j (6 + 8 * k4 + k5))) - (M.1 0 j (6 + 8 * k7 + k8))) + (M.1 0 j (0 + k1))) 1 (mi_set M 0 j (54 + 10 * i + k10) ((M.1 0 j (54 + 10 * i + k9)) + 1))) else (mi_ix 5 10).bind fun k11 => (mi_ix 5 10).bind fun k12 => fN_moveStore_L81 j i (M.1 0 j (0 + k1)) ((((M.1 0 j (54 + 10 * i + k2)) + (M.1 0 j (6 + 8 * k4 + k5))) - (M.1 0 j (6 + 8 * k7 + k8))) - (M.1 0 j (0 + k1))) 1 (mi_set M 0 j (54 + 10 * i + k12) ((M.1 0 j (54 + 10 * i + k11)) + 1))) := by
  refine (mx_steps 3 (pc' := 5) (ls' := [(0, mR 0 j 0), (1, mR 14 j i)]) (st' := [mI 0, mR 15 j 0]) (M' := M) rfl).trans ?_
  refine (mx_ix (i := 0) (n := 3) (pc' := 6) (ls' := [(0, mR 0 j 0), (1, mR 14 j i)]) (sf := fun k1 => [mI (M.1 0 j (0 + k1))]) (Mf := fun k1 => M) rfl).trans ?_
  refine mi_bdc fun k1 => ?_
  refine (mx_steps 3 (pc' := 9) (ls' := [(0, mR 0 j 0), (1, mR 14 j i), (2, mI (M.1 0 j (0 + k1)))]) (st' := [mI 4, mR 14 j i]) (M' := M) rfl).trans ?_
  refine (mx_ix (i := 4) (n := 10) (pc' := 10) (ls' := [(0, mR 0 j 0), (1, mR 14 j i), (2, mI (M.1 0 j (0 + k1)))]) (sf := fun k2 => [mI (M.1 0 j (54 + 10 * i + k2))]) (Mf := fun k2 => M) rfl).trans ?_
  refine mi_bdc fun k2 => ?_
  refine (mx_steps 4 (pc' := 16) (ls' := [(0, mR 0 j 0), (1, mR 14 j i), (2, mI (M.1 0 j (0 + k1)))]) (st' := [mI 0, mR 14 j i, mR 11 j 0, mI (M.1 0 j (54 + 10 * i + k2))]) (M' := M) rfl).trans ?_
  refine (mx_ix (i := 0) (n := 10) (pc' := 17) (ls' := [(0, mR 0 j 0), (1, mR 14 j i), (2, mI (M.1 0 j (0 + k1)))]) (sf := fun k3 => [mI (M.1 0 j (54 + 10 * i + k3)), mR 11 j 0, mI (M.1 0 j (54 + 10 * i + k2))]) (Mf := fun k3 => M) rfl).trans ?_
  refine mi_bdc fun k3 => ?_
  refine (mx_ix (i := M.1 0 j (54 + 10 * i + k3)) (n := 6) (pc' := 18) (ls' := [(0, mR 0 j 0), (1, mR 14 j i), (2, mI (M.1 0 j (0 + k1)))]) (sf := fun k4 => [mR 12 j k4, mI (M.1 0 j (54 + 10 * i + k2))]) (Mf := fun k4 => M) rfl).trans ?_
  refine mi_bdc fun k4 => ?_
  refine (mx_steps 1 (pc' := 20) (ls' := [(0, mR 0 j 0), (1, mR 14 j i), (2, mI (M.1 0 j (0 + k1)))]) (st' := [mI 7, mR 12 j k4, mI (M.1 0 j (54 + 10 * i + k2))]) (M' := M) rfl).trans ?_
  refine (mx_ix (i := 7) (n := 8) (pc' := 21) (ls' := [(0, mR 0 j 0), (1, mR 14 j i), (2, mI (M.1 0 j (0 + k1)))]) (sf := fun k5 => [mI (M.1 0 j (6 + 8 * k4 + k5)), mI (M.1 0 j (54 + 10 * i + k2))]) (Mf := fun k5 => M) rfl).trans ?_
  refine mi_bdc fun k5 => ?_
  refine (mx_steps 5 (pc' := 28) (ls' := [(0, mR 0 j 0), (1, mR 14 j i), (2, mI (M.1 0 j (0 + k1)))]) (st' := [mI 1, mR 14 j i, mR 11 j 0, mI ((M.1 0 j (54 + 10 * i + k2)) + (M.1 0 j (6 + 8 * k4 + k5)))]) (M' := M) rfl).trans ?_
  refine (mx_ix (i := 1) (n := 10) (pc' := 29) (ls' := [(0, mR 0 j 0), (1, mR 14 j i), (2, mI (M.1 0 j (0 + k1)))]) (sf := fun k6 => [mI (M.1 0 j (54 + 10 * i + k6)), mR 11 j 0, mI ((M.1 0 j (54 + 10 * i + k2)) + (M.1 0 j (6 + 8 * k4 + k5)))]) (Mf := fun k6 => M) rfl).trans ?_
  refine mi_bdc fun k6 => ?_
  refine (mx_ix (i := M.1 0 j (54 + 10 * i + k6)) (n := 6) (pc' := 30) (ls' := [(0, mR 0 j 0), (1, mR 14 j i), (2, mI (M.1 0 j (0 + k1)))]) (sf := fun k7 => [mR 12 j k7, mI ((M.1 0 j (54 + 10 * i + k2)) + (M.1 0 j (6 + 8 * k4 + k5)))]) (Mf := fun k7 => M) rfl).trans ?_
  refine mi_bdc fun k7 => ?_
  refine (mx_steps 1 (pc' := 32) (ls' := [(0, mR 0 j 0), (1, mR 14 j i), (2, mI (M.1 0 j (0 + k1)))]) (st' := [mI 7, mR 12 j k7, mI ((M.1 0 j (54 + 10 * i + k2)) + (M.1 0 j (6 + 8 * k4 + k5)))]) (M' := M) rfl).trans ?_
  refine (mx_ix (i := 7) (n := 8) (pc' := 33) (ls' := [(0, mR 0 j 0), (1, mR 14 j i), (2, mI (M.1 0 j (0 + k1)))]) (sf := fun k8 => [mI (M.1 0 j (6 + 8 * k7 + k8)), mI ((M.1 0 j (54 + 10 * i + k2)) + (M.1 0 j (6 + 8 * k4 + k5)))]) (Mf := fun k8 => M) rfl).trans ?_
  refine mi_bdc fun k8 => ?_
  refine (mx_steps 8 (pc' := 42) (ls' := [(0, mR 0 j 0), (1, mR 14 j i), (2, mI (M.1 0 j (0 + k1))), (3, mI (((M.1 0 j (54 + 10 * i + k2)) + (M.1 0 j (6 + 8 * k4 + k5))) - (M.1 0 j (6 + 8 * k7 + k8)))), (4, mI 0)]) (st' := [mI (2 * (M.1 0 j (0 + k1))), mI (((M.1 0 j (54 + 10 * i + k2)) + (M.1 0 j (6 + 8 * k4 + k5))) - (M.1 0 j (6 + 8 * k7 + k8)))]) (M' := M) rfl).trans ?_
  refine (mx_if (c := (((M.1 0 j (54 + 10 * i + k2)) + (M.1 0 j (6 + 8 * k4 + k5))) - (M.1 0 j (6 + 8 * k7 + k8))) ≤ (2 * (M.1 0 j (0 + k1)))) (p1 := 62) (l1 := [(0, mR 0 j 0), (1, mR 14 j i), (2, mI (M.1 0 j (0 + k1))), (3, mI (((M.1 0 j (54 + 10 * i + k2)) + (M.1 0 j (6 + 8 * k4 + k5))) - (M.1 0 j (6 + 8 * k7 + k8)))), (4, mI 0)]) (s1 := []) (M1 := M) (p2 := 45) (l2 := [(0, mR 0 j 0), (1, mR 14 j i), (2, mI (M.1 0 j (0 + k1))), (3, mI (((M.1 0 j (54 + 10 * i + k2)) + (M.1 0 j (6 + 8 * k4 + k5))) - (M.1 0 j (6 + 8 * k7 + k8)))), (4, mI 0)]) (s2 := []) (M2 := M) rfl).trans ?_
  refine mi_itc ?_ ?_
  · refine (mx_steps 1 (pc' := 63) (ls' := [(0, mR 0 j 0), (1, mR 14 j i), (2, mI (M.1 0 j (0 + k1))), (3, mI (((M.1 0 j (54 + 10 * i + k2)) + (M.1 0 j (6 + 8 * k4 + k5))) - (M.1 0 j (6 + 8 * k7 + k8)))), (4, mI 0)]) (st' := [mI (((M.1 0 j (54 + 10 * i + k2)) + (M.1 0 j (6 + 8 * k4 + k5))) - (M.1 0 j (6 + 8 * k7 + k8)))]) (M' := M) rfl).trans ?_
    refine (mx_if (c := 0 ≤ (((M.1 0 j (54 + 10 * i + k2)) + (M.1 0 j (6 + 8 * k4 + k5))) - (M.1 0 j (6 + 8 * k7 + k8)))) (p1 := 81) (l1 := [(0, mR 0 j 0), (1, mR 14 j i), (2, mI (M.1 0 j (0 + k1))), (3, mI (((M.1 0 j (54 + 10 * i + k2)) + (M.1 0 j (6 + 8 * k4 + k5))) - (M.1 0 j (6 + 8 * k7 + k8)))), (4, mI 0)]) (s1 := []) (M1 := M) (p2 := 66) (l2 := [(0, mR 0 j 0), (1, mR 14 j i), (2, mI (M.1 0 j (0 + k1))), (3, mI (((M.1 0 j (54 + 10 * i + k2)) + (M.1 0 j (6 + 8 * k4 + k5))) - (M.1 0 j (6 + 8 * k7 + k8)))), (4, mI 0)]) (s2 := []) (M2 := M) rfl).trans ?_
    refine mi_itc ?_ ?_
    · rfl
    · refine (mx_steps 7 (pc' := 74) (ls' := [(0, mR 0 j 0), (1, mR 14 j i), (2, mI (M.1 0 j (0 + k1))), (3, mI ((((M.1 0 j (54 + 10 * i + k2)) + (M.1 0 j (6 + 8 * k4 + k5))) - (M.1 0 j (6 + 8 * k7 + k8))) + (M.1 0 j (0 + k1)))), (4, mI 0)]) (st' := [mI 6, mR 14 j i, mI 6, mR 14 j i]) (M' := M) rfl).trans ?_
      refine (mx_ix (i := 6) (n := 10) (pc' := 75) (ls' := [(0, mR 0 j 0), (1, mR 14 j i), (2, mI (M.1 0 j (0 + k1))), (3, mI ((((M.1 0 j (54 + 10 * i + k2)) + (M.1 0 j (6 + 8 * k4 + k5))) - (M.1 0 j (6 + 8 * k7 + k8))) + (M.1 0 j (0 + k1)))), (4, mI 0)]) (sf := fun k9 => [mI (M.1 0 j (54 + 10 * i + k9)), mI 6, mR 14 j i]) (Mf := fun k9 => M) rfl).trans ?_
      refine mi_bdc fun k9 => ?_
      refine (mx_steps 2 (pc' := 77) (ls' := [(0, mR 0 j 0), (1, mR 14 j i), (2, mI (M.1 0 j (0 + k1))), (3, mI ((((M.1 0 j (54 + 10 * i + k2)) + (M.1 0 j (6 + 8 * k4 + k5))) - (M.1 0 j (6 + 8 * k7 + k8))) + (M.1 0 j (0 + k1)))), (4, mI 0)]) (st' := [mI ((M.1 0 j (54 + 10 * i + k9)) + 1), mI 6, mR 14 j i]) (M' := M) rfl).trans ?_
      refine (mx_ix (i := 6) (n := 10) (pc' := 78) (ls' := [(0, mR 0 j 0), (1, mR 14 j i), (2, mI (M.1 0 j (0 + k1))), (3, mI ((((M.1 0 j (54 + 10 * i + k2)) + (M.1 0 j (6 + 8 * k4 + k5))) - (M.1 0 j (6 + 8 * k7 + k8))) + (M.1 0 j (0 + k1)))), (4, mI 0)]) (sf := fun k10 => []) (Mf := fun k10 => mi_set M 0 j (54 + 10 * i + k10) ((M.1 0 j (54 + 10 * i + k9)) + 1)) rfl).trans ?_
      refine mi_bdc fun k10 => ?_
      refine (mx_steps 2 (pc' := 81) (ls' := [(0, mR 0 j 0), (1, mR 14 j i), (2, mI (M.1 0 j (0 + k1))), (3, mI ((((M.1 0 j (54 + 10 * i + k2)) + (M.1 0 j (6 + 8 * k4 + k5))) - (M.1 0 j (6 + 8 * k7 + k8))) + (M.1 0 j (0 + k1)))), (4, mI 1)]) (st' := []) (M' := mi_set M 0 j (54 + 10 * i + k10) ((M.1 0 j (54 + 10 * i + k9)) + 1)) rfl).trans ?_
      rfl
  · refine (mx_steps 7 (pc' := 52) (ls' := [(0, mR 0 j 0), (1, mR 14 j i), (2, mI (M.1 0 j (0 + k1))), (3, mI ((((M.1 0 j (54 + 10 * i + k2)) + (M.1 0 j (6 + 8 * k4 + k5))) - (M.1 0 j (6 + 8 * k7 + k8))) - (M.1 0 j (0 + k1)))), (4, mI 0)]) (st' := [mI 5, mR 14 j i, mI 5, mR 14 j i]) (M' := M) rfl).trans ?_
    refine (mx_ix (i := 5) (n := 10) (pc' := 53) (ls' := [(0, mR 0 j 0), (1, mR 14 j i), (2, mI (M.1 0 j (0 + k1))), (3, mI ((((M.1 0 j (54 + 10 * i + k2)) + (M.1 0 j (6 + 8 * k4 + k5))) - (M.1 0 j (6 + 8 * k7 + k8))) - (M.1 0 j (0 + k1)))), (4, mI 0)]) (sf := fun k11 => [mI (M.1 0 j (54 + 10 * i + k11)), mI 5, mR 14 j i]) (Mf := fun k11 => M) rfl).trans ?_
    refine mi_bdc fun k11 => ?_
    refine (mx_steps 2 (pc' := 55) (ls' := [(0, mR 0 j 0), (1, mR 14 j i), (2, mI (M.1 0 j (0 + k1))), (3, mI ((((M.1 0 j (54 + 10 * i + k2)) + (M.1 0 j (6 + 8 * k4 + k5))) - (M.1 0 j (6 + 8 * k7 + k8))) - (M.1 0 j (0 + k1)))), (4, mI 0)]) (st' := [mI ((M.1 0 j (54 + 10 * i + k11)) + 1), mI 5, mR 14 j i]) (M' := M) rfl).trans ?_
    refine (mx_ix (i := 5) (n := 10) (pc' := 56) (ls' := [(0, mR 0 j 0), (1, mR 14 j i), (2, mI (M.1 0 j (0 + k1))), (3, mI ((((M.1 0 j (54 + 10 * i + k2)) + (M.1 0 j (6 + 8 * k4 + k5))) - (M.1 0 j (6 + 8 * k7 + k8))) - (M.1 0 j (0 + k1)))), (4, mI 0)]) (sf := fun k12 => []) (Mf := fun k12 => mi_set M 0 j (54 + 10 * i + k12) ((M.1 0 j (54 + 10 * i + k11)) + 1)) rfl).trans ?_
    refine mi_bdc fun k12 => ?_
    refine (mx_steps 3 (pc' := 81) (ls' := [(0, mR 0 j 0), (1, mR 14 j i), (2, mI (M.1 0 j (0 + k1))), (3, mI ((((M.1 0 j (54 + 10 * i + k2)) + (M.1 0 j (6 + 8 * k4 + k5))) - (M.1 0 j (6 + 8 * k7 + k8))) - (M.1 0 j (0 + k1)))), (4, mI 1)]) (st' := []) (M' := mi_set M 0 j (54 + 10 * i + k12) ((M.1 0 j (54 + 10 * i + k11)) + 1)) rfl).trans ?_
    rfl

set_option maxRecDepth 20000 in
theorem fN_moveStore_L81_eq (j : Nat) (i : Nat) (v2 : Int32) (v3 : Int32) (v4 : Int32) (M : mM) : fN_moveStore_L81 j i v2 v3 v4 M = (mi_ix 4 10).bind fun k1 => (mi_ix 7 10).bind fun k2 => (mi_ix 7 10).bind fun k3 => (mi_ix 8 10).bind fun k4 => (mi_ix 8 10).bind fun k5 => (mi_ix 1 3).bind fun k6 => (if (if 0 ≤ (v3 - v2) then (v3 - v2) else 0 - (v3 - v2)) ≤ ((mi_set (mi_set (mi_set M 0 j (54 + 10 * i + k1) v3) 0 j (54 + 10 * i + k3) (if v3 < ((mi_set M 0 j (54 + 10 * i + k1) v3).1 0 j (54 + 10 * i + k2)) then v3 else ((mi_set M 0 j (54 + 10 * i + k1) v3).1 0 j (54 + 10 * i + k2)))) 0 j (54 + 10 * i + k5) (if ((mi_set (mi_set M 0 j (54 + 10 * i + k1) v3) 0 j (54 + 10 * i + k3) (if v3 < ((mi_set M 0 j (54 + 10 * i + k1) v3).1 0 j (54 + 10 * i + k2)) then v3 else ((mi_set M 0 j (54 + 10 * i + k1) v3).1 0 j (54 + 10 * i + k2)))).1 0 j (54 + 10 * i + k4)) < v3 then v3 else ((mi_set (mi_set M 0 j (54 + 10 * i + k1) v3) 0 j (54 + 10 * i + k3) (if v3 < ((mi_set M 0 j (54 + 10 * i + k1) v3).1 0 j (54 + 10 * i + k2)) then v3 else ((mi_set M 0 j (54 + 10 * i + k1) v3).1 0 j (54 + 10 * i + k2)))).1 0 j (54 + 10 * i + k4)))).1 0 j (0 + k6)) then some (v4, mi_set (mi_set (mi_set M 0 j (54 + 10 * i + k1) v3) 0 j (54 + 10 * i + k3) (if v3 < ((mi_set M 0 j (54 + 10 * i + k1) v3).1 0 j (54 + 10 * i + k2)) then v3 else ((mi_set M 0 j (54 + 10 * i + k1) v3).1 0 j (54 + 10 * i + k2)))) 0 j (54 + 10 * i + k5) (if ((mi_set (mi_set M 0 j (54 + 10 * i + k1) v3) 0 j (54 + 10 * i + k3) (if v3 < ((mi_set M 0 j (54 + 10 * i + k1) v3).1 0 j (54 + 10 * i + k2)) then v3 else ((mi_set M 0 j (54 + 10 * i + k1) v3).1 0 j (54 + 10 * i + k2)))).1 0 j (54 + 10 * i + k4)) < v3 then v3 else ((mi_set (mi_set M 0 j (54 + 10 * i + k1) v3) 0 j (54 + 10 * i + k3) (if v3 < ((mi_set M 0 j (54 + 10 * i + k1) v3).1 0 j (54 + 10 * i + k2)) then v3 else ((mi_set M 0 j (54 + 10 * i + k1) v3).1 0 j (54 + 10 * i + k2)))).1 0 j (54 + 10 * i + k4)))) else (mi_ix 9 10).bind fun k7 => (mi_ix 9 10).bind fun k8 => some (v4, mi_set (mi_set (mi_set (mi_set M 0 j (54 + 10 * i + k1) v3) 0 j (54 + 10 * i + k3) (if v3 < ((mi_set M 0 j (54 + 10 * i + k1) v3).1 0 j (54 + 10 * i + k2)) then v3 else ((mi_set M 0 j (54 + 10 * i + k1) v3).1 0 j (54 + 10 * i + k2)))) 0 j (54 + 10 * i + k5) (if ((mi_set (mi_set M 0 j (54 + 10 * i + k1) v3) 0 j (54 + 10 * i + k3) (if v3 < ((mi_set M 0 j (54 + 10 * i + k1) v3).1 0 j (54 + 10 * i + k2)) then v3 else ((mi_set M 0 j (54 + 10 * i + k1) v3).1 0 j (54 + 10 * i + k2)))).1 0 j (54 + 10 * i + k4)) < v3 then v3 else ((mi_set (mi_set M 0 j (54 + 10 * i + k1) v3) 0 j (54 + 10 * i + k3) (if v3 < ((mi_set M 0 j (54 + 10 * i + k1) v3).1 0 j (54 + 10 * i + k2)) then v3 else ((mi_set M 0 j (54 + 10 * i + k1) v3).1 0 j (54 + 10 * i + k2)))).1 0 j (54 + 10 * i + k4)))) 0 j (54 + 10 * i + k8) (((mi_set (mi_set (mi_set M 0 j (54 + 10 * i + k1) v3) 0 j (54 + 10 * i + k3) (if v3 < ((mi_set M 0 j (54 + 10 * i + k1) v3).1 0 j (54 + 10 * i + k2)) then v3 else ((mi_set M 0 j (54 + 10 * i + k1) v3).1 0 j (54 + 10 * i + k2)))) 0 j (54 + 10 * i + k5) (if ((mi_set (mi_set M 0 j (54 + 10 * i + k1) v3) 0 j (54 + 10 * i + k3) (if v3 < ((mi_set M 0 j (54 + 10 * i + k1) v3).1 0 j (54 + 10 * i + k2)) then v3 else ((mi_set M 0 j (54 + 10 * i + k1) v3).1 0 j (54 + 10 * i + k2)))).1 0 j (54 + 10 * i + k4)) < v3 then v3 else ((mi_set (mi_set M 0 j (54 + 10 * i + k1) v3) 0 j (54 + 10 * i + k3) (if v3 < ((mi_set M 0 j (54 + 10 * i + k1) v3).1 0 j (54 + 10 * i + k2)) then v3 else ((mi_set M 0 j (54 + 10 * i + k1) v3).1 0 j (54 + 10 * i + k2)))).1 0 j (54 + 10 * i + k4)))).1 0 j (54 + 10 * i + k7)) + 1))) := by
  refine (mx_steps 3 (pc' := 84) (ls' := [(0, mR 0 j 0), (1, mR 14 j i), (2, mI v2), (3, mI v3), (4, mI v4)]) (st' := [mI v3, mI 4, mR 14 j i]) (M' := M) rfl).trans ?_
  refine (mx_ix (i := 4) (n := 10) (pc' := 85) (ls' := [(0, mR 0 j 0), (1, mR 14 j i), (2, mI v2), (3, mI v3), (4, mI v4)]) (sf := fun k1 => []) (Mf := fun k1 => mi_set M 0 j (54 + 10 * i + k1) v3) rfl).trans ?_
  refine mi_bdc fun k1 => ?_
  refine (mx_steps 4 (pc' := 91) (ls' := [(0, mR 0 j 0), (1, mR 14 j i), (2, mI v2), (3, mI v3), (4, mI v4)]) (st' := [mI 7, mR 14 j i, mI 7, mR 14 j i]) (M' := mi_set M 0 j (54 + 10 * i + k1) v3) rfl).trans ?_
  refine (mx_ix (i := 7) (n := 10) (pc' := 92) (ls' := [(0, mR 0 j 0), (1, mR 14 j i), (2, mI v2), (3, mI v3), (4, mI v4)]) (sf := fun k2 => [mI ((mi_set M 0 j (54 + 10 * i + k1) v3).1 0 j (54 + 10 * i + k2)), mI 7, mR 14 j i]) (Mf := fun k2 => mi_set M 0 j (54 + 10 * i + k1) v3) rfl).trans ?_
  refine mi_bdc fun k2 => ?_
  refine (mx_steps 2 (pc' := 96) (ls' := [(0, mR 0 j 0), (1, mR 14 j i), (2, mI v2), (3, mI v3), (4, mI v4)]) (st' := [mI (if v3 < ((mi_set M 0 j (54 + 10 * i + k1) v3).1 0 j (54 + 10 * i + k2)) then v3 else ((mi_set M 0 j (54 + 10 * i + k1) v3).1 0 j (54 + 10 * i + k2))), mI 7, mR 14 j i]) (M' := mi_set M 0 j (54 + 10 * i + k1) v3) rfl).trans ?_
  refine (mx_ix (i := 7) (n := 10) (pc' := 97) (ls' := [(0, mR 0 j 0), (1, mR 14 j i), (2, mI v2), (3, mI v3), (4, mI v4)]) (sf := fun k3 => []) (Mf := fun k3 => mi_set (mi_set M 0 j (54 + 10 * i + k1) v3) 0 j (54 + 10 * i + k3) (if v3 < ((mi_set M 0 j (54 + 10 * i + k1) v3).1 0 j (54 + 10 * i + k2)) then v3 else ((mi_set M 0 j (54 + 10 * i + k1) v3).1 0 j (54 + 10 * i + k2)))) rfl).trans ?_
  refine mi_bdc fun k3 => ?_
  refine (mx_steps 4 (pc' := 103) (ls' := [(0, mR 0 j 0), (1, mR 14 j i), (2, mI v2), (3, mI v3), (4, mI v4)]) (st' := [mI 8, mR 14 j i, mI 8, mR 14 j i]) (M' := mi_set (mi_set M 0 j (54 + 10 * i + k1) v3) 0 j (54 + 10 * i + k3) (if v3 < ((mi_set M 0 j (54 + 10 * i + k1) v3).1 0 j (54 + 10 * i + k2)) then v3 else ((mi_set M 0 j (54 + 10 * i + k1) v3).1 0 j (54 + 10 * i + k2)))) rfl).trans ?_
  refine (mx_ix (i := 8) (n := 10) (pc' := 104) (ls' := [(0, mR 0 j 0), (1, mR 14 j i), (2, mI v2), (3, mI v3), (4, mI v4)]) (sf := fun k4 => [mI ((mi_set (mi_set M 0 j (54 + 10 * i + k1) v3) 0 j (54 + 10 * i + k3) (if v3 < ((mi_set M 0 j (54 + 10 * i + k1) v3).1 0 j (54 + 10 * i + k2)) then v3 else ((mi_set M 0 j (54 + 10 * i + k1) v3).1 0 j (54 + 10 * i + k2)))).1 0 j (54 + 10 * i + k4)), mI 8, mR 14 j i]) (Mf := fun k4 => mi_set (mi_set M 0 j (54 + 10 * i + k1) v3) 0 j (54 + 10 * i + k3) (if v3 < ((mi_set M 0 j (54 + 10 * i + k1) v3).1 0 j (54 + 10 * i + k2)) then v3 else ((mi_set M 0 j (54 + 10 * i + k1) v3).1 0 j (54 + 10 * i + k2)))) rfl).trans ?_
  refine mi_bdc fun k4 => ?_
  refine (mx_steps 2 (pc' := 108) (ls' := [(0, mR 0 j 0), (1, mR 14 j i), (2, mI v2), (3, mI v3), (4, mI v4)]) (st' := [mI (if ((mi_set (mi_set M 0 j (54 + 10 * i + k1) v3) 0 j (54 + 10 * i + k3) (if v3 < ((mi_set M 0 j (54 + 10 * i + k1) v3).1 0 j (54 + 10 * i + k2)) then v3 else ((mi_set M 0 j (54 + 10 * i + k1) v3).1 0 j (54 + 10 * i + k2)))).1 0 j (54 + 10 * i + k4)) < v3 then v3 else ((mi_set (mi_set M 0 j (54 + 10 * i + k1) v3) 0 j (54 + 10 * i + k3) (if v3 < ((mi_set M 0 j (54 + 10 * i + k1) v3).1 0 j (54 + 10 * i + k2)) then v3 else ((mi_set M 0 j (54 + 10 * i + k1) v3).1 0 j (54 + 10 * i + k2)))).1 0 j (54 + 10 * i + k4))), mI 8, mR 14 j i]) (M' := mi_set (mi_set M 0 j (54 + 10 * i + k1) v3) 0 j (54 + 10 * i + k3) (if v3 < ((mi_set M 0 j (54 + 10 * i + k1) v3).1 0 j (54 + 10 * i + k2)) then v3 else ((mi_set M 0 j (54 + 10 * i + k1) v3).1 0 j (54 + 10 * i + k2)))) rfl).trans ?_
  refine (mx_ix (i := 8) (n := 10) (pc' := 109) (ls' := [(0, mR 0 j 0), (1, mR 14 j i), (2, mI v2), (3, mI v3), (4, mI v4)]) (sf := fun k5 => []) (Mf := fun k5 => mi_set (mi_set (mi_set M 0 j (54 + 10 * i + k1) v3) 0 j (54 + 10 * i + k3) (if v3 < ((mi_set M 0 j (54 + 10 * i + k1) v3).1 0 j (54 + 10 * i + k2)) then v3 else ((mi_set M 0 j (54 + 10 * i + k1) v3).1 0 j (54 + 10 * i + k2)))) 0 j (54 + 10 * i + k5) (if ((mi_set (mi_set M 0 j (54 + 10 * i + k1) v3) 0 j (54 + 10 * i + k3) (if v3 < ((mi_set M 0 j (54 + 10 * i + k1) v3).1 0 j (54 + 10 * i + k2)) then v3 else ((mi_set M 0 j (54 + 10 * i + k1) v3).1 0 j (54 + 10 * i + k2)))).1 0 j (54 + 10 * i + k4)) < v3 then v3 else ((mi_set (mi_set M 0 j (54 + 10 * i + k1) v3) 0 j (54 + 10 * i + k3) (if v3 < ((mi_set M 0 j (54 + 10 * i + k1) v3).1 0 j (54 + 10 * i + k2)) then v3 else ((mi_set M 0 j (54 + 10 * i + k1) v3).1 0 j (54 + 10 * i + k2)))).1 0 j (54 + 10 * i + k4)))) rfl).trans ?_
  refine mi_bdc fun k5 => ?_
  refine (mx_steps 7 (pc' := 120) (ls' := [(0, mR 0 j 0), (1, mR 14 j i), (2, mI v2), (3, mI v3), (4, mI v4)]) (st' := [mI 1, mR 15 j 0, mI (if 0 ≤ (v3 - v2) then (v3 - v2) else 0 - (v3 - v2))]) (M' := mi_set (mi_set (mi_set M 0 j (54 + 10 * i + k1) v3) 0 j (54 + 10 * i + k3) (if v3 < ((mi_set M 0 j (54 + 10 * i + k1) v3).1 0 j (54 + 10 * i + k2)) then v3 else ((mi_set M 0 j (54 + 10 * i + k1) v3).1 0 j (54 + 10 * i + k2)))) 0 j (54 + 10 * i + k5) (if ((mi_set (mi_set M 0 j (54 + 10 * i + k1) v3) 0 j (54 + 10 * i + k3) (if v3 < ((mi_set M 0 j (54 + 10 * i + k1) v3).1 0 j (54 + 10 * i + k2)) then v3 else ((mi_set M 0 j (54 + 10 * i + k1) v3).1 0 j (54 + 10 * i + k2)))).1 0 j (54 + 10 * i + k4)) < v3 then v3 else ((mi_set (mi_set M 0 j (54 + 10 * i + k1) v3) 0 j (54 + 10 * i + k3) (if v3 < ((mi_set M 0 j (54 + 10 * i + k1) v3).1 0 j (54 + 10 * i + k2)) then v3 else ((mi_set M 0 j (54 + 10 * i + k1) v3).1 0 j (54 + 10 * i + k2)))).1 0 j (54 + 10 * i + k4)))) rfl).trans ?_
  refine (mx_ix (i := 1) (n := 3) (pc' := 121) (ls' := [(0, mR 0 j 0), (1, mR 14 j i), (2, mI v2), (3, mI v3), (4, mI v4)]) (sf := fun k6 => [mI ((mi_set (mi_set (mi_set M 0 j (54 + 10 * i + k1) v3) 0 j (54 + 10 * i + k3) (if v3 < ((mi_set M 0 j (54 + 10 * i + k1) v3).1 0 j (54 + 10 * i + k2)) then v3 else ((mi_set M 0 j (54 + 10 * i + k1) v3).1 0 j (54 + 10 * i + k2)))) 0 j (54 + 10 * i + k5) (if ((mi_set (mi_set M 0 j (54 + 10 * i + k1) v3) 0 j (54 + 10 * i + k3) (if v3 < ((mi_set M 0 j (54 + 10 * i + k1) v3).1 0 j (54 + 10 * i + k2)) then v3 else ((mi_set M 0 j (54 + 10 * i + k1) v3).1 0 j (54 + 10 * i + k2)))).1 0 j (54 + 10 * i + k4)) < v3 then v3 else ((mi_set (mi_set M 0 j (54 + 10 * i + k1) v3) 0 j (54 + 10 * i + k3) (if v3 < ((mi_set M 0 j (54 + 10 * i + k1) v3).1 0 j (54 + 10 * i + k2)) then v3 else ((mi_set M 0 j (54 + 10 * i + k1) v3).1 0 j (54 + 10 * i + k2)))).1 0 j (54 + 10 * i + k4)))).1 0 j (0 + k6)), mI (if 0 ≤ (v3 - v2) then (v3 - v2) else 0 - (v3 - v2))]) (Mf := fun k6 => mi_set (mi_set (mi_set M 0 j (54 + 10 * i + k1) v3) 0 j (54 + 10 * i + k3) (if v3 < ((mi_set M 0 j (54 + 10 * i + k1) v3).1 0 j (54 + 10 * i + k2)) then v3 else ((mi_set M 0 j (54 + 10 * i + k1) v3).1 0 j (54 + 10 * i + k2)))) 0 j (54 + 10 * i + k5) (if ((mi_set (mi_set M 0 j (54 + 10 * i + k1) v3) 0 j (54 + 10 * i + k3) (if v3 < ((mi_set M 0 j (54 + 10 * i + k1) v3).1 0 j (54 + 10 * i + k2)) then v3 else ((mi_set M 0 j (54 + 10 * i + k1) v3).1 0 j (54 + 10 * i + k2)))).1 0 j (54 + 10 * i + k4)) < v3 then v3 else ((mi_set (mi_set M 0 j (54 + 10 * i + k1) v3) 0 j (54 + 10 * i + k3) (if v3 < ((mi_set M 0 j (54 + 10 * i + k1) v3).1 0 j (54 + 10 * i + k2)) then v3 else ((mi_set M 0 j (54 + 10 * i + k1) v3).1 0 j (54 + 10 * i + k2)))).1 0 j (54 + 10 * i + k4)))) rfl).trans ?_
  refine mi_bdc fun k6 => ?_
  refine (mx_if (c := (if 0 ≤ (v3 - v2) then (v3 - v2) else 0 - (v3 - v2)) ≤ ((mi_set (mi_set (mi_set M 0 j (54 + 10 * i + k1) v3) 0 j (54 + 10 * i + k3) (if v3 < ((mi_set M 0 j (54 + 10 * i + k1) v3).1 0 j (54 + 10 * i + k2)) then v3 else ((mi_set M 0 j (54 + 10 * i + k1) v3).1 0 j (54 + 10 * i + k2)))) 0 j (54 + 10 * i + k5) (if ((mi_set (mi_set M 0 j (54 + 10 * i + k1) v3) 0 j (54 + 10 * i + k3) (if v3 < ((mi_set M 0 j (54 + 10 * i + k1) v3).1 0 j (54 + 10 * i + k2)) then v3 else ((mi_set M 0 j (54 + 10 * i + k1) v3).1 0 j (54 + 10 * i + k2)))).1 0 j (54 + 10 * i + k4)) < v3 then v3 else ((mi_set (mi_set M 0 j (54 + 10 * i + k1) v3) 0 j (54 + 10 * i + k3) (if v3 < ((mi_set M 0 j (54 + 10 * i + k1) v3).1 0 j (54 + 10 * i + k2)) then v3 else ((mi_set M 0 j (54 + 10 * i + k1) v3).1 0 j (54 + 10 * i + k2)))).1 0 j (54 + 10 * i + k4)))).1 0 j (0 + k6))) (p1 := 132) (l1 := [(0, mR 0 j 0), (1, mR 14 j i), (2, mI v2), (3, mI v3), (4, mI v4)]) (s1 := []) (M1 := mi_set (mi_set (mi_set M 0 j (54 + 10 * i + k1) v3) 0 j (54 + 10 * i + k3) (if v3 < ((mi_set M 0 j (54 + 10 * i + k1) v3).1 0 j (54 + 10 * i + k2)) then v3 else ((mi_set M 0 j (54 + 10 * i + k1) v3).1 0 j (54 + 10 * i + k2)))) 0 j (54 + 10 * i + k5) (if ((mi_set (mi_set M 0 j (54 + 10 * i + k1) v3) 0 j (54 + 10 * i + k3) (if v3 < ((mi_set M 0 j (54 + 10 * i + k1) v3).1 0 j (54 + 10 * i + k2)) then v3 else ((mi_set M 0 j (54 + 10 * i + k1) v3).1 0 j (54 + 10 * i + k2)))).1 0 j (54 + 10 * i + k4)) < v3 then v3 else ((mi_set (mi_set M 0 j (54 + 10 * i + k1) v3) 0 j (54 + 10 * i + k3) (if v3 < ((mi_set M 0 j (54 + 10 * i + k1) v3).1 0 j (54 + 10 * i + k2)) then v3 else ((mi_set M 0 j (54 + 10 * i + k1) v3).1 0 j (54 + 10 * i + k2)))).1 0 j (54 + 10 * i + k4)))) (p2 := 124) (l2 := [(0, mR 0 j 0), (1, mR 14 j i), (2, mI v2), (3, mI v3), (4, mI v4)]) (s2 := []) (M2 := mi_set (mi_set (mi_set M 0 j (54 + 10 * i + k1) v3) 0 j (54 + 10 * i + k3) (if v3 < ((mi_set M 0 j (54 + 10 * i + k1) v3).1 0 j (54 + 10 * i + k2)) then v3 else ((mi_set M 0 j (54 + 10 * i + k1) v3).1 0 j (54 + 10 * i + k2)))) 0 j (54 + 10 * i + k5) (if ((mi_set (mi_set M 0 j (54 + 10 * i + k1) v3) 0 j (54 + 10 * i + k3) (if v3 < ((mi_set M 0 j (54 + 10 * i + k1) v3).1 0 j (54 + 10 * i + k2)) then v3 else ((mi_set M 0 j (54 + 10 * i + k1) v3).1 0 j (54 + 10 * i + k2)))).1 0 j (54 + 10 * i + k4)) < v3 then v3 else ((mi_set (mi_set M 0 j (54 + 10 * i + k1) v3) 0 j (54 + 10 * i + k3) (if v3 < ((mi_set M 0 j (54 + 10 * i + k1) v3).1 0 j (54 + 10 * i + k2)) then v3 else ((mi_set M 0 j (54 + 10 * i + k1) v3).1 0 j (54 + 10 * i + k2)))).1 0 j (54 + 10 * i + k4)))) rfl).trans ?_
  refine mi_itc ?_ ?_
  · refine (mx_steps 1 (pc' := 134) (ls' := [(0, mR 0 j 0), (1, mR 14 j i), (2, mI v2), (3, mI v3), (4, mI v4)]) (st' := [mI v4]) (M' := mi_set (mi_set (mi_set M 0 j (54 + 10 * i + k1) v3) 0 j (54 + 10 * i + k3) (if v3 < ((mi_set M 0 j (54 + 10 * i + k1) v3).1 0 j (54 + 10 * i + k2)) then v3 else ((mi_set M 0 j (54 + 10 * i + k1) v3).1 0 j (54 + 10 * i + k2)))) 0 j (54 + 10 * i + k5) (if ((mi_set (mi_set M 0 j (54 + 10 * i + k1) v3) 0 j (54 + 10 * i + k3) (if v3 < ((mi_set M 0 j (54 + 10 * i + k1) v3).1 0 j (54 + 10 * i + k2)) then v3 else ((mi_set M 0 j (54 + 10 * i + k1) v3).1 0 j (54 + 10 * i + k2)))).1 0 j (54 + 10 * i + k4)) < v3 then v3 else ((mi_set (mi_set M 0 j (54 + 10 * i + k1) v3) 0 j (54 + 10 * i + k3) (if v3 < ((mi_set M 0 j (54 + 10 * i + k1) v3).1 0 j (54 + 10 * i + k2)) then v3 else ((mi_set M 0 j (54 + 10 * i + k1) v3).1 0 j (54 + 10 * i + k2)))).1 0 j (54 + 10 * i + k4)))) rfl).trans ?_
    exact mx_ret rfl rfl
  · refine (mx_steps 3 (pc' := 128) (ls' := [(0, mR 0 j 0), (1, mR 14 j i), (2, mI v2), (3, mI v3), (4, mI v4)]) (st' := [mI 9, mR 14 j i, mI 9, mR 14 j i]) (M' := mi_set (mi_set (mi_set M 0 j (54 + 10 * i + k1) v3) 0 j (54 + 10 * i + k3) (if v3 < ((mi_set M 0 j (54 + 10 * i + k1) v3).1 0 j (54 + 10 * i + k2)) then v3 else ((mi_set M 0 j (54 + 10 * i + k1) v3).1 0 j (54 + 10 * i + k2)))) 0 j (54 + 10 * i + k5) (if ((mi_set (mi_set M 0 j (54 + 10 * i + k1) v3) 0 j (54 + 10 * i + k3) (if v3 < ((mi_set M 0 j (54 + 10 * i + k1) v3).1 0 j (54 + 10 * i + k2)) then v3 else ((mi_set M 0 j (54 + 10 * i + k1) v3).1 0 j (54 + 10 * i + k2)))).1 0 j (54 + 10 * i + k4)) < v3 then v3 else ((mi_set (mi_set M 0 j (54 + 10 * i + k1) v3) 0 j (54 + 10 * i + k3) (if v3 < ((mi_set M 0 j (54 + 10 * i + k1) v3).1 0 j (54 + 10 * i + k2)) then v3 else ((mi_set M 0 j (54 + 10 * i + k1) v3).1 0 j (54 + 10 * i + k2)))).1 0 j (54 + 10 * i + k4)))) rfl).trans ?_
    refine (mx_ix (i := 9) (n := 10) (pc' := 129) (ls' := [(0, mR 0 j 0), (1, mR 14 j i), (2, mI v2), (3, mI v3), (4, mI v4)]) (sf := fun k7 => [mI ((mi_set (mi_set (mi_set M 0 j (54 + 10 * i + k1) v3) 0 j (54 + 10 * i + k3) (if v3 < ((mi_set M 0 j (54 + 10 * i + k1) v3).1 0 j (54 + 10 * i + k2)) then v3 else ((mi_set M 0 j (54 + 10 * i + k1) v3).1 0 j (54 + 10 * i + k2)))) 0 j (54 + 10 * i + k5) (if ((mi_set (mi_set M 0 j (54 + 10 * i + k1) v3) 0 j (54 + 10 * i + k3) (if v3 < ((mi_set M 0 j (54 + 10 * i + k1) v3).1 0 j (54 + 10 * i + k2)) then v3 else ((mi_set M 0 j (54 + 10 * i + k1) v3).1 0 j (54 + 10 * i + k2)))).1 0 j (54 + 10 * i + k4)) < v3 then v3 else ((mi_set (mi_set M 0 j (54 + 10 * i + k1) v3) 0 j (54 + 10 * i + k3) (if v3 < ((mi_set M 0 j (54 + 10 * i + k1) v3).1 0 j (54 + 10 * i + k2)) then v3 else ((mi_set M 0 j (54 + 10 * i + k1) v3).1 0 j (54 + 10 * i + k2)))).1 0 j (54 + 10 * i + k4)))).1 0 j (54 + 10 * i + k7)), mI 9, mR 14 j i]) (Mf := fun k7 => mi_set (mi_set (mi_set M 0 j (54 + 10 * i + k1) v3) 0 j (54 + 10 * i + k3) (if v3 < ((mi_set M 0 j (54 + 10 * i + k1) v3).1 0 j (54 + 10 * i + k2)) then v3 else ((mi_set M 0 j (54 + 10 * i + k1) v3).1 0 j (54 + 10 * i + k2)))) 0 j (54 + 10 * i + k5) (if ((mi_set (mi_set M 0 j (54 + 10 * i + k1) v3) 0 j (54 + 10 * i + k3) (if v3 < ((mi_set M 0 j (54 + 10 * i + k1) v3).1 0 j (54 + 10 * i + k2)) then v3 else ((mi_set M 0 j (54 + 10 * i + k1) v3).1 0 j (54 + 10 * i + k2)))).1 0 j (54 + 10 * i + k4)) < v3 then v3 else ((mi_set (mi_set M 0 j (54 + 10 * i + k1) v3) 0 j (54 + 10 * i + k3) (if v3 < ((mi_set M 0 j (54 + 10 * i + k1) v3).1 0 j (54 + 10 * i + k2)) then v3 else ((mi_set M 0 j (54 + 10 * i + k1) v3).1 0 j (54 + 10 * i + k2)))).1 0 j (54 + 10 * i + k4)))) rfl).trans ?_
    refine mi_bdc fun k7 => ?_
    refine (mx_steps 2 (pc' := 131) (ls' := [(0, mR 0 j 0), (1, mR 14 j i), (2, mI v2), (3, mI v3), (4, mI v4)]) (st' := [mI (((mi_set (mi_set (mi_set M 0 j (54 + 10 * i + k1) v3) 0 j (54 + 10 * i + k3) (if v3 < ((mi_set M 0 j (54 + 10 * i + k1) v3).1 0 j (54 + 10 * i + k2)) then v3 else ((mi_set M 0 j (54 + 10 * i + k1) v3).1 0 j (54 + 10 * i + k2)))) 0 j (54 + 10 * i + k5) (if ((mi_set (mi_set M 0 j (54 + 10 * i + k1) v3) 0 j (54 + 10 * i + k3) (if v3 < ((mi_set M 0 j (54 + 10 * i + k1) v3).1 0 j (54 + 10 * i + k2)) then v3 else ((mi_set M 0 j (54 + 10 * i + k1) v3).1 0 j (54 + 10 * i + k2)))).1 0 j (54 + 10 * i + k4)) < v3 then v3 else ((mi_set (mi_set M 0 j (54 + 10 * i + k1) v3) 0 j (54 + 10 * i + k3) (if v3 < ((mi_set M 0 j (54 + 10 * i + k1) v3).1 0 j (54 + 10 * i + k2)) then v3 else ((mi_set M 0 j (54 + 10 * i + k1) v3).1 0 j (54 + 10 * i + k2)))).1 0 j (54 + 10 * i + k4)))).1 0 j (54 + 10 * i + k7)) + 1), mI 9, mR 14 j i]) (M' := mi_set (mi_set (mi_set M 0 j (54 + 10 * i + k1) v3) 0 j (54 + 10 * i + k3) (if v3 < ((mi_set M 0 j (54 + 10 * i + k1) v3).1 0 j (54 + 10 * i + k2)) then v3 else ((mi_set M 0 j (54 + 10 * i + k1) v3).1 0 j (54 + 10 * i + k2)))) 0 j (54 + 10 * i + k5) (if ((mi_set (mi_set M 0 j (54 + 10 * i + k1) v3) 0 j (54 + 10 * i + k3) (if v3 < ((mi_set M 0 j (54 + 10 * i + k1) v3).1 0 j (54 + 10 * i + k2)) then v3 else ((mi_set M 0 j (54 + 10 * i + k1) v3).1 0 j (54 + 10 * i + k2)))).1 0 j (54 + 10 * i + k4)) < v3 then v3 else ((mi_set (mi_set M 0 j (54 + 10 * i + k1) v3) 0 j (54 + 10 * i + k3) (if v3 < ((mi_set M 0 j (54 + 10 * i + k1) v3).1 0 j (54 + 10 * i + k2)) then v3 else ((mi_set M 0 j (54 + 10 * i + k1) v3).1 0 j (54 + 10 * i + k2)))).1 0 j (54 + 10 * i + k4)))) rfl).trans ?_
    refine (mx_ix (i := 9) (n := 10) (pc' := 132) (ls' := [(0, mR 0 j 0), (1, mR 14 j i), (2, mI v2), (3, mI v3), (4, mI v4)]) (sf := fun k8 => []) (Mf := fun k8 => mi_set (mi_set (mi_set (mi_set M 0 j (54 + 10 * i + k1) v3) 0 j (54 + 10 * i + k3) (if v3 < ((mi_set M 0 j (54 + 10 * i + k1) v3).1 0 j (54 + 10 * i + k2)) then v3 else ((mi_set M 0 j (54 + 10 * i + k1) v3).1 0 j (54 + 10 * i + k2)))) 0 j (54 + 10 * i + k5) (if ((mi_set (mi_set M 0 j (54 + 10 * i + k1) v3) 0 j (54 + 10 * i + k3) (if v3 < ((mi_set M 0 j (54 + 10 * i + k1) v3).1 0 j (54 + 10 * i + k2)) then v3 else ((mi_set M 0 j (54 + 10 * i + k1) v3).1 0 j (54 + 10 * i + k2)))).1 0 j (54 + 10 * i + k4)) < v3 then v3 else ((mi_set (mi_set M 0 j (54 + 10 * i + k1) v3) 0 j (54 + 10 * i + k3) (if v3 < ((mi_set M 0 j (54 + 10 * i + k1) v3).1 0 j (54 + 10 * i + k2)) then v3 else ((mi_set M 0 j (54 + 10 * i + k1) v3).1 0 j (54 + 10 * i + k2)))).1 0 j (54 + 10 * i + k4)))) 0 j (54 + 10 * i + k8) (((mi_set (mi_set (mi_set M 0 j (54 + 10 * i + k1) v3) 0 j (54 + 10 * i + k3) (if v3 < ((mi_set M 0 j (54 + 10 * i + k1) v3).1 0 j (54 + 10 * i + k2)) then v3 else ((mi_set M 0 j (54 + 10 * i + k1) v3).1 0 j (54 + 10 * i + k2)))) 0 j (54 + 10 * i + k5) (if ((mi_set (mi_set M 0 j (54 + 10 * i + k1) v3) 0 j (54 + 10 * i + k3) (if v3 < ((mi_set M 0 j (54 + 10 * i + k1) v3).1 0 j (54 + 10 * i + k2)) then v3 else ((mi_set M 0 j (54 + 10 * i + k1) v3).1 0 j (54 + 10 * i + k2)))).1 0 j (54 + 10 * i + k4)) < v3 then v3 else ((mi_set (mi_set M 0 j (54 + 10 * i + k1) v3) 0 j (54 + 10 * i + k3) (if v3 < ((mi_set M 0 j (54 + 10 * i + k1) v3).1 0 j (54 + 10 * i + k2)) then v3 else ((mi_set M 0 j (54 + 10 * i + k1) v3).1 0 j (54 + 10 * i + k2)))).1 0 j (54 + 10 * i + k4)))).1 0 j (54 + 10 * i + k7)) + 1)) rfl).trans ?_
    refine mi_bdc fun k8 => ?_
    refine (mx_steps 1 (pc' := 134) (ls' := [(0, mR 0 j 0), (1, mR 14 j i), (2, mI v2), (3, mI v3), (4, mI v4)]) (st' := [mI v4]) (M' := mi_set (mi_set (mi_set (mi_set M 0 j (54 + 10 * i + k1) v3) 0 j (54 + 10 * i + k3) (if v3 < ((mi_set M 0 j (54 + 10 * i + k1) v3).1 0 j (54 + 10 * i + k2)) then v3 else ((mi_set M 0 j (54 + 10 * i + k1) v3).1 0 j (54 + 10 * i + k2)))) 0 j (54 + 10 * i + k5) (if ((mi_set (mi_set M 0 j (54 + 10 * i + k1) v3) 0 j (54 + 10 * i + k3) (if v3 < ((mi_set M 0 j (54 + 10 * i + k1) v3).1 0 j (54 + 10 * i + k2)) then v3 else ((mi_set M 0 j (54 + 10 * i + k1) v3).1 0 j (54 + 10 * i + k2)))).1 0 j (54 + 10 * i + k4)) < v3 then v3 else ((mi_set (mi_set M 0 j (54 + 10 * i + k1) v3) 0 j (54 + 10 * i + k3) (if v3 < ((mi_set M 0 j (54 + 10 * i + k1) v3).1 0 j (54 + 10 * i + k2)) then v3 else ((mi_set M 0 j (54 + 10 * i + k1) v3).1 0 j (54 + 10 * i + k2)))).1 0 j (54 + 10 * i + k4)))) 0 j (54 + 10 * i + k8) (((mi_set (mi_set (mi_set M 0 j (54 + 10 * i + k1) v3) 0 j (54 + 10 * i + k3) (if v3 < ((mi_set M 0 j (54 + 10 * i + k1) v3).1 0 j (54 + 10 * i + k2)) then v3 else ((mi_set M 0 j (54 + 10 * i + k1) v3).1 0 j (54 + 10 * i + k2)))) 0 j (54 + 10 * i + k5) (if ((mi_set (mi_set M 0 j (54 + 10 * i + k1) v3) 0 j (54 + 10 * i + k3) (if v3 < ((mi_set M 0 j (54 + 10 * i + k1) v3).1 0 j (54 + 10 * i + k2)) then v3 else ((mi_set M 0 j (54 + 10 * i + k1) v3).1 0 j (54 + 10 * i + k2)))).1 0 j (54 + 10 * i + k4)) < v3 then v3 else ((mi_set (mi_set M 0 j (54 + 10 * i + k1) v3) 0 j (54 + 10 * i + k3) (if v3 < ((mi_set M 0 j (54 + 10 * i + k1) v3).1 0 j (54 + 10 * i + k2)) then v3 else ((mi_set M 0 j (54 + 10 * i + k1) v3).1 0 j (54 + 10 * i + k2)))).1 0 j (54 + 10 * i + k4)))).1 0 j (54 + 10 * i + k7)) + 1)) rfl).trans ?_
    exact mx_ret rfl rfl

set_option maxRecDepth 20000 in
theorem fN_ticksTillSlip_eq (j : Nat) (i : Nat) (M : mM) : fN_ticksTillSlip j i M = (mi_ix 0 10).bind fun k1 => (mi_ix (M.1 0 j (54 + 10 * i + k1)) 6).bind fun k2 => (mi_ix 1 10).bind fun k3 => (mi_ix (M.1 0 j (54 + 10 * i + k3)) 6).bind fun k4 => (mi_ix 6 8).bind fun k5 => (mi_ix 6 8).bind fun k6 => (mi_ix 4 10).bind fun k7 => fN_ticksTillSlip_L38 j k2 k4 (M.1 0 j (6 + 8 * k2 + k5)) (M.1 0 j (6 + 8 * k4 + k6)) (M.1 0 j (54 + 10 * i + k7)) 1 M := by
  refine (mx_steps 4 (pc' := 6) (ls' := [(0, mR 0 j 0), (1, mR 14 j i)]) (st' := [mI 0, mR 14 j i, mR 11 j 0]) (M' := M) rfl).trans ?_
  refine (mx_ix (i := 0) (n := 10) (pc' := 7) (ls' := [(0, mR 0 j 0), (1, mR 14 j i)]) (sf := fun k1 => [mI (M.1 0 j (54 + 10 * i + k1)), mR 11 j 0]) (Mf := fun k1 => M) rfl).trans ?_
  refine mi_bdc fun k1 => ?_
  refine (mx_ix (i := M.1 0 j (54 + 10 * i + k1)) (n := 6) (pc' := 8) (ls' := [(0, mR 0 j 0), (1, mR 14 j i)]) (sf := fun k2 => [mR 12 j k2]) (Mf := fun k2 => M) rfl).trans ?_
  refine mi_bdc fun k2 => ?_
  refine (mx_steps 5 (pc' := 15) (ls' := [(0, mR 0 j 0), (1, mR 14 j i), (2, mR 12 j k2)]) (st' := [mI 1, mR 14 j i, mR 11 j 0]) (M' := M) rfl).trans ?_
  refine (mx_ix (i := 1) (n := 10) (pc' := 16) (ls' := [(0, mR 0 j 0), (1, mR 14 j i), (2, mR 12 j k2)]) (sf := fun k3 => [mI (M.1 0 j (54 + 10 * i + k3)), mR 11 j 0]) (Mf := fun k3 => M) rfl).trans ?_
  refine mi_bdc fun k3 => ?_
  refine (mx_ix (i := M.1 0 j (54 + 10 * i + k3)) (n := 6) (pc' := 17) (ls' := [(0, mR 0 j 0), (1, mR 14 j i), (2, mR 12 j k2)]) (sf := fun k4 => [mR 12 j k4]) (Mf := fun k4 => M) rfl).trans ?_
  refine mi_bdc fun k4 => ?_
  refine (mx_steps 3 (pc' := 21) (ls' := [(0, mR 0 j 0), (1, mR 14 j i), (2, mR 12 j k2), (3, mR 12 j k4)]) (st' := [mI 6, mR 12 j k2]) (M' := M) rfl).trans ?_
  refine (mx_ix (i := 6) (n := 8) (pc' := 22) (ls' := [(0, mR 0 j 0), (1, mR 14 j i), (2, mR 12 j k2), (3, mR 12 j k4)]) (sf := fun k5 => [mI (M.1 0 j (6 + 8 * k2 + k5))]) (Mf := fun k5 => M) rfl).trans ?_
  refine mi_bdc fun k5 => ?_
  refine (mx_steps 3 (pc' := 27) (ls' := [(0, mR 0 j 0), (1, mR 14 j i), (2, mR 12 j k2), (3, mR 12 j k4), (4, mI (M.1 0 j (6 + 8 * k2 + k5)))]) (st' := [mI 6, mR 12 j k4]) (M' := M) rfl).trans ?_
  refine (mx_ix (i := 6) (n := 8) (pc' := 28) (ls' := [(0, mR 0 j 0), (1, mR 14 j i), (2, mR 12 j k2), (3, mR 12 j k4), (4, mI (M.1 0 j (6 + 8 * k2 + k5)))]) (sf := fun k6 => [mI (M.1 0 j (6 + 8 * k4 + k6))]) (Mf := fun k6 => M) rfl).trans ?_
  refine mi_bdc fun k6 => ?_
  refine (mx_steps 3 (pc' := 32) (ls' := [(0, mR 0 j 0), (1, mR 14 j i), (2, mR 12 j k2), (3, mR 12 j k4), (4, mI (M.1 0 j (6 + 8 * k2 + k5))), (5, mI (M.1 0 j (6 + 8 * k4 + k6)))]) (st' := [mI 4, mR 14 j i]) (M' := M) rfl).trans ?_
  refine (mx_ix (i := 4) (n := 10) (pc' := 33) (ls' := [(0, mR 0 j 0), (1, mR 14 j i), (2, mR 12 j k2), (3, mR 12 j k4), (4, mI (M.1 0 j (6 + 8 * k2 + k5))), (5, mI (M.1 0 j (6 + 8 * k4 + k6)))]) (sf := fun k7 => [mI (M.1 0 j (54 + 10 * i + k7))]) (Mf := fun k7 => M) rfl).trans ?_
  refine mi_bdc fun k7 => ?_
  refine (mx_steps 3 (pc' := 38) (ls' := [(0, mR 0 j 0), (2, mR 12 j k2), (3, mR 12 j k4), (4, mI (M.1 0 j (6 + 8 * k2 + k5))), (5, mI (M.1 0 j (6 + 8 * k4 + k6))), (6, mI (M.1 0 j (54 + 10 * i + k7))), (7, mI 1)]) (st' := []) (M' := M) rfl).trans ?_
  rfl

set_option maxRecDepth 20000 in
theorem fN_ticksTillSlip_L38_eq (j : Nat) (h2i : Nat) (h3i : Nat) (v4 : Int32) (v5 : Int32) (v6 : Int32) (v7 : Int32) (M : mM) : fN_ticksTillSlip_L38 j h2i h3i v4 v5 v6 v7 M = (if 999 < v7 then some ((-1001), M) else (mi_ix 2 8).bind fun k1 => (mi_ix 2 8).bind fun k2 => (mi_ix 0 3).bind fun k3 => (fX_isWithin (v6 + (((v4 + (M.1 0 j (6 + 8 * h2i + k1))) / 100) - ((v5 + (M.1 0 j (6 + 8 * h3i + k2))) / 100))) 0 (2 * (M.1 0 j (0 + k3))) M).bind fun q4 => (if ¬ q4.1 = 0 then fN_ticksTillSlip_L38 j h2i h3i ((v4 + (M.1 0 j (6 + 8 * h2i + k1))) - (v4 + (M.1 0 j (6 + 8 * h2i + k1))) / 100 * 100) ((v5 + (M.1 0 j (6 + 8 * h3i + k2))) - (v5 + (M.1 0 j (6 + 8 * h3i + k2))) / 100 * 100) (v6 + (((v4 + (M.1 0 j (6 + 8 * h2i + k1))) / 100) - ((v5 + (M.1 0 j (6 + 8 * h3i + k2))) / 100))) (v7 + 1) q4.2 else some (v7, q4.2))) := by
  refine (mx_steps 2 (pc' := 43) (ls' := [(0, mR 0 j 0), (2, mR 12 j h2i), (3, mR 12 j h3i), (4, mI v4), (5, mI v5), (6, mI v6), (7, mI v7)]) (st' := [mI 999, mI v7]) (M' := M) rfl).trans ?_
  refine (mx_if (c := 999 < v7) (p1 := 118) (l1 := [(0, mR 0 j 0), (2, mR 12 j h2i), (3, mR 12 j h3i), (4, mI v4), (5, mI v5), (6, mI v6), (7, mI v7)]) (s1 := []) (M1 := M) (p2 := 46) (l2 := [(0, mR 0 j 0), (2, mR 12 j h2i), (3, mR 12 j h3i), (4, mI v4), (5, mI v5), (6, mI v6), (7, mI v7)]) (s2 := []) (M2 := M) rfl).trans ?_
  refine mi_itc ?_ ?_
  · refine (mx_steps 1 (pc' := 121) (ls' := [(0, mR 0 j 0), (2, mR 12 j h2i), (3, mR 12 j h3i), (4, mI v4), (5, mI v5), (6, mI v6), (7, mI v7)]) (st' := [mI ((-1001))]) (M' := M) rfl).trans ?_
    exact mx_ret rfl rfl
  · refine (mx_steps 3 (pc' := 50) (ls' := [(0, mR 0 j 0), (2, mR 12 j h2i), (3, mR 12 j h3i), (4, mI v4), (5, mI v5), (6, mI v6), (7, mI v7)]) (st' := [mI 2, mR 12 j h2i, mI v4]) (M' := M) rfl).trans ?_
    refine (mx_ix (i := 2) (n := 8) (pc' := 51) (ls' := [(0, mR 0 j 0), (2, mR 12 j h2i), (3, mR 12 j h3i), (4, mI v4), (5, mI v5), (6, mI v6), (7, mI v7)]) (sf := fun k1 => [mI (M.1 0 j (6 + 8 * h2i + k1)), mI v4]) (Mf := fun k1 => M) rfl).trans ?_
    refine mi_bdc fun k1 => ?_
    refine (mx_steps 5 (pc' := 58) (ls' := [(0, mR 0 j 0), (2, mR 12 j h2i), (3, mR 12 j h3i), (4, mI (v4 + (M.1 0 j (6 + 8 * h2i + k1)))), (5, mI v5), (6, mI v6), (7, mI v7)]) (st' := [mI 2, mR 12 j h3i, mI v5]) (M' := M) rfl).trans ?_
    refine (mx_ix (i := 2) (n := 8) (pc' := 59) (ls' := [(0, mR 0 j 0), (2, mR 12 j h2i), (3, mR 12 j h3i), (4, mI (v4 + (M.1 0 j (6 + 8 * h2i + k1)))), (5, mI v5), (6, mI v6), (7, mI v7)]) (sf := fun k2 => [mI (M.1 0 j (6 + 8 * h3i + k2)), mI v5]) (Mf := fun k2 => M) rfl).trans ?_
    refine mi_bdc fun k2 => ?_
    refine (mx_steps 26 (pc' := 101) (ls' := [(0, mR 0 j 0), (2, mR 12 j h2i), (3, mR 12 j h3i), (4, mI ((v4 + (M.1 0 j (6 + 8 * h2i + k1))) - (v4 + (M.1 0 j (6 + 8 * h2i + k1))) / 100 * 100)), (5, mI ((v5 + (M.1 0 j (6 + 8 * h3i + k2))) - (v5 + (M.1 0 j (6 + 8 * h3i + k2))) / 100 * 100)), (6, mI (v6 + (((v4 + (M.1 0 j (6 + 8 * h2i + k1))) / 100) - ((v5 + (M.1 0 j (6 + 8 * h3i + k2))) / 100)))), (7, mI v7)]) (st' := [mI 0, mR 15 j 0, mI 2, mI 0, mI (v6 + (((v4 + (M.1 0 j (6 + 8 * h2i + k1))) / 100) - ((v5 + (M.1 0 j (6 + 8 * h3i + k2))) / 100)))]) (M' := M) rfl).trans ?_
    refine (mx_ix (i := 0) (n := 3) (pc' := 102) (ls' := [(0, mR 0 j 0), (2, mR 12 j h2i), (3, mR 12 j h3i), (4, mI ((v4 + (M.1 0 j (6 + 8 * h2i + k1))) - (v4 + (M.1 0 j (6 + 8 * h2i + k1))) / 100 * 100)), (5, mI ((v5 + (M.1 0 j (6 + 8 * h3i + k2))) - (v5 + (M.1 0 j (6 + 8 * h3i + k2))) / 100 * 100)), (6, mI (v6 + (((v4 + (M.1 0 j (6 + 8 * h2i + k1))) / 100) - ((v5 + (M.1 0 j (6 + 8 * h3i + k2))) / 100)))), (7, mI v7)]) (sf := fun k3 => [mI (M.1 0 j (0 + k3)), mI 2, mI 0, mI (v6 + (((v4 + (M.1 0 j (6 + 8 * h2i + k1))) / 100) - ((v5 + (M.1 0 j (6 + 8 * h3i + k2))) / 100)))]) (Mf := fun k3 => M) rfl).trans ?_
    refine mi_bdc fun k3 => ?_
    refine (mx_steps 1 (pc' := 103) (ls' := [(0, mR 0 j 0), (2, mR 12 j h2i), (3, mR 12 j h3i), (4, mI ((v4 + (M.1 0 j (6 + 8 * h2i + k1))) - (v4 + (M.1 0 j (6 + 8 * h2i + k1))) / 100 * 100)), (5, mI ((v5 + (M.1 0 j (6 + 8 * h3i + k2))) - (v5 + (M.1 0 j (6 + 8 * h3i + k2))) / 100 * 100)), (6, mI (v6 + (((v4 + (M.1 0 j (6 + 8 * h2i + k1))) / 100) - ((v5 + (M.1 0 j (6 + 8 * h3i + k2))) / 100)))), (7, mI v7)]) (st' := [mI (2 * (M.1 0 j (0 + k3))), mI 0, mI (v6 + (((v4 + (M.1 0 j (6 + 8 * h2i + k1))) / 100) - ((v5 + (M.1 0 j (6 + 8 * h3i + k2))) / 100)))]) (M' := M) rfl).trans ?_
    refine (mx_callI (z := 63) (as := [mI (v6 + (((v4 + (M.1 0 j (6 + 8 * h2i + k1))) / 100) - ((v5 + (M.1 0 j (6 + 8 * h3i + k2))) / 100))), mI 0, mI (2 * (M.1 0 j (0 + k3)))]) (pc' := 106) (ls' := [(0, mR 0 j 0), (2, mR 12 j h2i), (3, mR 12 j h3i), (4, mI ((v4 + (M.1 0 j (6 + 8 * h2i + k1))) - (v4 + (M.1 0 j (6 + 8 * h2i + k1))) / 100 * 100)), (5, mI ((v5 + (M.1 0 j (6 + 8 * h3i + k2))) - (v5 + (M.1 0 j (6 + 8 * h3i + k2))) / 100 * 100)), (6, mI (v6 + (((v4 + (M.1 0 j (6 + 8 * h2i + k1))) / 100) - ((v5 + (M.1 0 j (6 + 8 * h3i + k2))) / 100)))), (7, mI v7)]) (r := []) rfl (Or.inr rfl)).trans ?_
    refine mi_bdc fun q4 => ?_
    refine (mx_if (c := ¬ q4.1 = 0) (p1 := 112) (l1 := [(0, mR 0 j 0), (2, mR 12 j h2i), (3, mR 12 j h3i), (4, mI ((v4 + (M.1 0 j (6 + 8 * h2i + k1))) - (v4 + (M.1 0 j (6 + 8 * h2i + k1))) / 100 * 100)), (5, mI ((v5 + (M.1 0 j (6 + 8 * h3i + k2))) - (v5 + (M.1 0 j (6 + 8 * h3i + k2))) / 100 * 100)), (6, mI (v6 + (((v4 + (M.1 0 j (6 + 8 * h2i + k1))) / 100) - ((v5 + (M.1 0 j (6 + 8 * h3i + k2))) / 100)))), (7, mI v7)]) (s1 := []) (M1 := q4.2) (p2 := 109) (l2 := [(0, mR 0 j 0), (2, mR 12 j h2i), (3, mR 12 j h3i), (4, mI ((v4 + (M.1 0 j (6 + 8 * h2i + k1))) - (v4 + (M.1 0 j (6 + 8 * h2i + k1))) / 100 * 100)), (5, mI ((v5 + (M.1 0 j (6 + 8 * h3i + k2))) - (v5 + (M.1 0 j (6 + 8 * h3i + k2))) / 100 * 100)), (6, mI (v6 + (((v4 + (M.1 0 j (6 + 8 * h2i + k1))) / 100) - ((v5 + (M.1 0 j (6 + 8 * h3i + k2))) / 100)))), (7, mI v7)]) (s2 := []) (M2 := q4.2) rfl).trans ?_
    refine mi_itc ?_ ?_
    · refine (mx_steps 2 (pc' := 38) (ls' := [(0, mR 0 j 0), (2, mR 12 j h2i), (3, mR 12 j h3i), (4, mI ((v4 + (M.1 0 j (6 + 8 * h2i + k1))) - (v4 + (M.1 0 j (6 + 8 * h2i + k1))) / 100 * 100)), (5, mI ((v5 + (M.1 0 j (6 + 8 * h3i + k2))) - (v5 + (M.1 0 j (6 + 8 * h3i + k2))) / 100 * 100)), (6, mI (v6 + (((v4 + (M.1 0 j (6 + 8 * h2i + k1))) / 100) - ((v5 + (M.1 0 j (6 + 8 * h3i + k2))) / 100)))), (7, mI (v7 + 1))]) (st' := []) (M' := q4.2) rfl).trans ?_
      rfl
    · refine (mx_steps 1 (pc' := 111) (ls' := [(0, mR 0 j 0), (2, mR 12 j h2i), (3, mR 12 j h3i), (4, mI ((v4 + (M.1 0 j (6 + 8 * h2i + k1))) - (v4 + (M.1 0 j (6 + 8 * h2i + k1))) / 100 * 100)), (5, mI ((v5 + (M.1 0 j (6 + 8 * h3i + k2))) - (v5 + (M.1 0 j (6 + 8 * h3i + k2))) / 100 * 100)), (6, mI (v6 + (((v4 + (M.1 0 j (6 + 8 * h2i + k1))) / 100) - ((v5 + (M.1 0 j (6 + 8 * h3i + k2))) / 100)))), (7, mI v7)]) (st' := [mI v7]) (M' := q4.2) rfl).trans ?_
      exact mx_ret rfl rfl

set_option maxRecDepth 20000 in
theorem fN_chainNode_eq (j : Nat) (a1 : Int32) (a2 : Int32) (M : mM) : fN_chainNode j a1 a2 M = fN_chainNode_L8 j a2 a1 0 0 M := by
  refine (mx_steps 6 (pc' := 8) (ls' := [(0, mR 0 j 0), (2, mI a2), (3, mI a1), (4, mI 0), (5, mI 0)]) (st' := []) (M' := M) rfl).trans ?_
  rfl

set_option maxRecDepth 20000 in
theorem fN_chainNode_L8_eq (j : Nat) (v2 : Int32) (v3 : Int32) (v4 : Int32) (v5 : Int32) (M : mM) : fN_chainNode_L8 j v2 v3 v4 v5 M = (if 6 ≤ v5 then some ((-1001), M) else (fN_hasNode j v3 M).bind fun q1 => (if q1.1 = 0 then some ((-1001), q1.2) else (if ¬ (v4 &&& (1 <<< (v3 &&& 31))) = 0 then some ((-1001), q1.2) else (if ¬ v5 = v2 then (fN_nodeAhead j v3 q1.2).bind fun q2 => fN_chainNode_L8 j v2 q2.1 (v4 ||| (1 <<< (v3 &&& 31))) (v5 + 1) q2.2 else some (v3, q1.2))))) := by
  refine (mx_steps 2 (pc' := 12) (ls' := [(0, mR 0 j 0), (2, mI v2), (3, mI v3), (4, mI v4), (5, mI v5)]) (st' := [mI 6, mI v5]) (M' := M) rfl).trans ?_
  refine (mx_if (c := 6 ≤ v5) (p1 := 60) (l1 := [(0, mR 0 j 0), (2, mI v2), (3, mI v3), (4, mI v4), (5, mI v5)]) (s1 := []) (M1 := M) (p2 := 15) (l2 := [(0, mR 0 j 0), (2, mI v2), (3, mI v3), (4, mI v4), (5, mI v5)]) (s2 := []) (M2 := M) rfl).trans ?_
  refine mi_itc ?_ ?_
  · refine (mx_steps 1 (pc' := 63) (ls' := [(0, mR 0 j 0), (2, mI v2), (3, mI v3), (4, mI v4), (5, mI v5)]) (st' := [mI ((-1001))]) (M' := M) rfl).trans ?_
    exact mx_ret rfl rfl
  · refine (mx_steps 2 (pc' := 17) (ls' := [(0, mR 0 j 0), (2, mI v2), (3, mI v3), (4, mI v4), (5, mI v5)]) (st' := [mI v3, mR 0 j 0]) (M' := M) rfl).trans ?_
    refine (mx_callI (z := 1) (as := [mR 0 j 0, mI v3]) (pc' := 20) (ls' := [(0, mR 0 j 0), (2, mI v2), (3, mI v3), (4, mI v4), (5, mI v5)]) (r := []) rfl (Or.inr rfl)).trans ?_
    refine mi_bdc fun q1 => ?_
    refine (mx_if (c := q1.1 = 0) (p1 := 60) (l1 := [(0, mR 0 j 0), (2, mI v2), (3, mI v3), (4, mI v4), (5, mI v5)]) (s1 := []) (M1 := q1.2) (p2 := 23) (l2 := [(0, mR 0 j 0), (2, mI v2), (3, mI v3), (4, mI v4), (5, mI v5)]) (s2 := []) (M2 := q1.2) rfl).trans ?_
    refine mi_itc ?_ ?_
    · refine (mx_steps 1 (pc' := 63) (ls' := [(0, mR 0 j 0), (2, mI v2), (3, mI v3), (4, mI v4), (5, mI v5)]) (st' := [mI ((-1001))]) (M' := q1.2) rfl).trans ?_
      exact mx_ret rfl rfl
    · refine (mx_steps 5 (pc' := 29) (ls' := [(0, mR 0 j 0), (2, mI v2), (3, mI v3), (4, mI v4), (5, mI v5)]) (st' := [mI (v4 &&& (1 <<< (v3 &&& 31)))]) (M' := q1.2) rfl).trans ?_
      refine (mx_if (c := ¬ (v4 &&& (1 <<< (v3 &&& 31))) = 0) (p1 := 60) (l1 := [(0, mR 0 j 0), (2, mI v2), (3, mI v3), (4, mI v4), (5, mI v5)]) (s1 := []) (M1 := q1.2) (p2 := 32) (l2 := [(0, mR 0 j 0), (2, mI v2), (3, mI v3), (4, mI v4), (5, mI v5)]) (s2 := []) (M2 := q1.2) rfl).trans ?_
      refine mi_itc ?_ ?_
      · refine (mx_steps 1 (pc' := 63) (ls' := [(0, mR 0 j 0), (2, mI v2), (3, mI v3), (4, mI v4), (5, mI v5)]) (st' := [mI ((-1001))]) (M' := q1.2) rfl).trans ?_
        exact mx_ret rfl rfl
      · refine (mx_steps 2 (pc' := 35) (ls' := [(0, mR 0 j 0), (2, mI v2), (3, mI v3), (4, mI v4), (5, mI v5)]) (st' := [mI v2, mI v5]) (M' := q1.2) rfl).trans ?_
        refine (mx_if (c := ¬ v5 = v2) (p1 := 40) (l1 := [(0, mR 0 j 0), (2, mI v2), (3, mI v3), (4, mI v4), (5, mI v5)]) (s1 := []) (M1 := q1.2) (p2 := 38) (l2 := [(0, mR 0 j 0), (2, mI v2), (3, mI v3), (4, mI v4), (5, mI v5)]) (s2 := []) (M2 := q1.2) rfl).trans ?_
        refine mi_itc ?_ ?_
        · refine (mx_steps 8 (pc' := 50) (ls' := [(0, mR 0 j 0), (2, mI v2), (3, mI v3), (4, mI (v4 ||| (1 <<< (v3 &&& 31)))), (5, mI v5)]) (st' := [mI v3, mR 0 j 0]) (M' := q1.2) rfl).trans ?_
          refine (mx_callI (z := 15) (as := [mR 0 j 0, mI v3]) (pc' := 53) (ls' := [(0, mR 0 j 0), (2, mI v2), (3, mI v3), (4, mI (v4 ||| (1 <<< (v3 &&& 31)))), (5, mI v5)]) (r := []) rfl (Or.inl rfl)).trans ?_
          refine mi_bdc fun q2 => ?_
          refine (mx_steps 3 (pc' := 8) (ls' := [(0, mR 0 j 0), (2, mI v2), (3, mI q2.1), (4, mI (v4 ||| (1 <<< (v3 &&& 31)))), (5, mI (v5 + 1))]) (st' := []) (M' := q2.2) rfl).trans ?_
          rfl
        · refine (mx_steps 1 (pc' := 39) (ls' := [(0, mR 0 j 0), (2, mI v2), (3, mI v3), (4, mI v4), (5, mI v5)]) (st' := [mI v3]) (M' := q1.2) rfl).trans ?_
          exact mx_ret rfl rfl

set_option maxRecDepth 20000 in
theorem fN_isRing_eq (j : Nat) (a1 : Int32) (M : mM) : fN_isRing j a1 M = fN_isRing_L4 j a1 0 M := by
  refine (mx_steps 4 (pc' := 4) (ls' := [(0, mR 0 j 0), (2, mI a1), (3, mI 0)]) (st' := []) (M' := M) rfl).trans ?_
  rfl

set_option maxRecDepth 20000 in
theorem fN_isRing_L4_eq (j : Nat) (v2 : Int32) (v3 : Int32) (M : mM) : fN_isRing_L4 j v2 v3 M = (if 6 ≤ v3 then fN_isRing_L30 v2 M else (fN_hasNode j v2 M).bind fun q1 => (if q1.1 = 0 then fN_isRing_L30 v2 q1.2 else (fN_nodeAhead j v2 q1.2).bind fun q2 => fN_isRing_L4 j q2.1 (v3 + 1) q2.2)) := by
  refine (mx_steps 2 (pc' := 7) (ls' := [(0, mR 0 j 0), (2, mI v2), (3, mI v3)]) (st' := [mI 6, mI v3]) (M' := M) rfl).trans ?_
  refine (mx_if (c := 6 ≤ v3) (p1 := 30) (l1 := [(2, mI v2)]) (s1 := []) (M1 := M) (p2 := 10) (l2 := [(0, mR 0 j 0), (2, mI v2), (3, mI v3)]) (s2 := []) (M2 := M) rfl).trans ?_
  refine mi_itc ?_ ?_
  · rfl
  · refine (mx_steps 2 (pc' := 12) (ls' := [(0, mR 0 j 0), (2, mI v2), (3, mI v3)]) (st' := [mI v2, mR 0 j 0]) (M' := M) rfl).trans ?_
    refine (mx_callI (z := 1) (as := [mR 0 j 0, mI v2]) (pc' := 15) (ls' := [(0, mR 0 j 0), (2, mI v2), (3, mI v3)]) (r := []) rfl (Or.inr rfl)).trans ?_
    refine mi_bdc fun q1 => ?_
    refine (mx_if (c := q1.1 = 0) (p1 := 30) (l1 := [(2, mI v2)]) (s1 := []) (M1 := q1.2) (p2 := 18) (l2 := [(0, mR 0 j 0), (2, mI v2), (3, mI v3)]) (s2 := []) (M2 := q1.2) rfl).trans ?_
    refine mi_itc ?_ ?_
    · rfl
    · refine (mx_steps 2 (pc' := 20) (ls' := [(0, mR 0 j 0), (2, mI v2), (3, mI v3)]) (st' := [mI v2, mR 0 j 0]) (M' := q1.2) rfl).trans ?_
      refine (mx_callI (z := 15) (as := [mR 0 j 0, mI v2]) (pc' := 23) (ls' := [(0, mR 0 j 0), (2, mI v2), (3, mI v3)]) (r := []) rfl (Or.inl rfl)).trans ?_
      refine mi_bdc fun q2 => ?_
      refine (mx_steps 3 (pc' := 4) (ls' := [(0, mR 0 j 0), (2, mI q2.1), (3, mI (v3 + 1))]) (st' := []) (M' := q2.2) rfl).trans ?_
      rfl

set_option maxRecDepth 20000 in
theorem fN_isRing_L30_eq (v2 : Int32) (M : mM) : fN_isRing_L30 v2 M = (if v2 = ((-1001)) then some (0, M) else some (1, M)) := by
  refine (mx_steps 2 (pc' := 34) (ls' := [(2, mI v2)]) (st' := [mI ((-1001)), mI v2]) (M' := M) rfl).trans ?_
  refine (mx_if (c := v2 = ((-1001))) (p1 := 41) (l1 := [(2, mI v2)]) (s1 := []) (M1 := M) (p2 := 37) (l2 := [(2, mI v2)]) (s2 := []) (M2 := M) rfl).trans ?_
  refine mi_itc ?_ ?_
  · refine (mx_steps 1 (pc' := 42) (ls' := [(2, mI v2)]) (st' := [mI 0]) (M' := M) rfl).trans ?_
    exact mx_ret rfl rfl
  · refine (mx_steps 2 (pc' := 42) (ls' := [(2, mI v2)]) (st' := [mI 1]) (M' := M) rfl).trans ?_
    exact mx_ret rfl rfl

set_option maxRecDepth 20000 in
theorem fN_counted_eq (j : Nat) (a1 : Int32) (M : mM) : fN_counted j a1 M = (if a1 = 0 then (mi_ix a1 3).bind fun k1 => some (M.1 0 j (0 + k1), M) else (if a1 = 1 then (mi_ix a1 3).bind fun k2 => some (M.1 0 j (0 + k2), M) else (if a1 = 2 then (mi_ix a1 3).bind fun k3 => some (M.1 0 j (0 + k3), M) else (if a1 = 3 then some (M.1 0 j 4, M) else (if a1 = 4 then some (M.1 0 j 5, M) else (if a1 = 5 then (fN_followerCount j M).bind fun q4 => some (q4.1, q4.2) else (if a1 = 6 then (fN_ringCount j M).bind fun q5 => some (q5.1, q5.2) else (if a1 = 7 then (fN_sumOfLinks j 5 M).bind fun q6 => some (q6.1, q6.2) else (if a1 = 8 then (fN_sumOfLinks j 6 M).bind fun q7 => some (q7.1, q7.2) else some (M.1 0 j 3, M)))))))))) := by
  refine (mx_steps 1 (pc' := 1) (ls' := [(0, mR 0 j 0), (1, mI a1)]) (st' := [mI a1]) (M' := M) rfl).trans ?_
  refine (mx_table (x := a1) (lo := 0) (ts := [52, 52, 52, 59, 64, 69, 74, 79, 85]) (d := 92) rfl).trans ?_
  refine mi_swc (F := fun tg => mi_ex mi_pI 27 tg (mi_jmp 27 tg [(0, mR 0 j 0), (1, mI a1)]) [] M) (k := 0) rfl ?_ ?_
  · show mi_ex mi_pI 27 52 [(0, mR 0 j 0), (1, mI a1)] [] M = _
    refine (mx_steps 3 (pc' := 57) (ls' := [(0, mR 0 j 0), (1, mI a1)]) (st' := [mI a1, mR 15 j 0]) (M' := M) rfl).trans ?_
    refine (mx_ix (i := a1) (n := 3) (pc' := 58) (ls' := [(0, mR 0 j 0), (1, mI a1)]) (sf := fun k1 => [mI (M.1 0 j (0 + k1))]) (Mf := fun k1 => M) rfl).trans ?_
    refine mi_bdc fun k1 => ?_
    exact mx_ret rfl rfl
  refine mi_swc (F := fun tg => mi_ex mi_pI 27 tg (mi_jmp 27 tg [(0, mR 0 j 0), (1, mI a1)]) [] M) (k := 1) rfl ?_ ?_
  · show mi_ex mi_pI 27 52 [(0, mR 0 j 0), (1, mI a1)] [] M = _
    refine (mx_steps 3 (pc' := 57) (ls' := [(0, mR 0 j 0), (1, mI a1)]) (st' := [mI a1, mR 15 j 0]) (M' := M) rfl).trans ?_
    refine (mx_ix (i := a1) (n := 3) (pc' := 58) (ls' := [(0, mR 0 j 0), (1, mI a1)]) (sf := fun k2 => [mI (M.1 0 j (0 + k2))]) (Mf := fun k2 => M) rfl).trans ?_
    refine mi_bdc fun k2 => ?_
    exact mx_ret rfl rfl
  refine mi_swc (F := fun tg => mi_ex mi_pI 27 tg (mi_jmp 27 tg [(0, mR 0 j 0), (1, mI a1)]) [] M) (k := 2) rfl ?_ ?_
  · show mi_ex mi_pI 27 52 [(0, mR 0 j 0), (1, mI a1)] [] M = _
    refine (mx_steps 3 (pc' := 57) (ls' := [(0, mR 0 j 0), (1, mI a1)]) (st' := [mI a1, mR 15 j 0]) (M' := M) rfl).trans ?_
    refine (mx_ix (i := a1) (n := 3) (pc' := 58) (ls' := [(0, mR 0 j 0), (1, mI a1)]) (sf := fun k3 => [mI (M.1 0 j (0 + k3))]) (Mf := fun k3 => M) rfl).trans ?_
    refine mi_bdc fun k3 => ?_
    exact mx_ret rfl rfl
  refine mi_swc (F := fun tg => mi_ex mi_pI 27 tg (mi_jmp 27 tg [(0, mR 0 j 0), (1, mI a1)]) [] M) (k := 3) rfl ?_ ?_
  · show mi_ex mi_pI 27 59 [(0, mR 0 j 0), (1, mI a1)] [] M = _
    refine (mx_steps 2 (pc' := 63) (ls' := [(0, mR 0 j 0), (1, mI a1)]) (st' := [mI (M.1 0 j 4)]) (M' := M) rfl).trans ?_
    exact mx_ret rfl rfl
  refine mi_swc (F := fun tg => mi_ex mi_pI 27 tg (mi_jmp 27 tg [(0, mR 0 j 0), (1, mI a1)]) [] M) (k := 4) rfl ?_ ?_
  · show mi_ex mi_pI 27 64 [(0, mR 0 j 0), (1, mI a1)] [] M = _
    refine (mx_steps 2 (pc' := 68) (ls' := [(0, mR 0 j 0), (1, mI a1)]) (st' := [mI (M.1 0 j 5)]) (M' := M) rfl).trans ?_
    exact mx_ret rfl rfl
  refine mi_swc (F := fun tg => mi_ex mi_pI 27 tg (mi_jmp 27 tg [(0, mR 0 j 0), (1, mI a1)]) [] M) (k := 5) rfl ?_ ?_
  · show mi_ex mi_pI 27 69 [(0, mR 0 j 0), (1, mI a1)] [] M = _
    refine (mx_steps 1 (pc' := 70) (ls' := [(0, mR 0 j 0), (1, mI a1)]) (st' := [mR 0 j 0]) (M' := M) rfl).trans ?_
    refine (mx_callI (z := 28) (as := [mR 0 j 0]) (pc' := 73) (ls' := [(0, mR 0 j 0), (1, mI a1)]) (r := []) rfl (Or.inl rfl)).trans ?_
    refine mi_bdc fun q4 => ?_
    exact mx_ret rfl rfl
  refine mi_swc (F := fun tg => mi_ex mi_pI 27 tg (mi_jmp 27 tg [(0, mR 0 j 0), (1, mI a1)]) [] M) (k := 6) rfl ?_ ?_
  · show mi_ex mi_pI 27 74 [(0, mR 0 j 0), (1, mI a1)] [] M = _
    refine (mx_steps 1 (pc' := 75) (ls' := [(0, mR 0 j 0), (1, mI a1)]) (st' := [mR 0 j 0]) (M' := M) rfl).trans ?_
    refine (mx_callI (z := 29) (as := [mR 0 j 0]) (pc' := 78) (ls' := [(0, mR 0 j 0), (1, mI a1)]) (r := []) rfl (Or.inl rfl)).trans ?_
    refine mi_bdc fun q5 => ?_
    exact mx_ret rfl rfl
  refine mi_swc (F := fun tg => mi_ex mi_pI 27 tg (mi_jmp 27 tg [(0, mR 0 j 0), (1, mI a1)]) [] M) (k := 7) rfl ?_ ?_
  · show mi_ex mi_pI 27 79 [(0, mR 0 j 0), (1, mI a1)] [] M = _
    refine (mx_steps 2 (pc' := 81) (ls' := [(0, mR 0 j 0), (1, mI a1)]) (st' := [mI 5, mR 0 j 0]) (M' := M) rfl).trans ?_
    refine (mx_callI (z := 30) (as := [mR 0 j 0, mI 5]) (pc' := 84) (ls' := [(0, mR 0 j 0), (1, mI a1)]) (r := []) rfl (Or.inl rfl)).trans ?_
    refine mi_bdc fun q6 => ?_
    exact mx_ret rfl rfl
  refine mi_swc (F := fun tg => mi_ex mi_pI 27 tg (mi_jmp 27 tg [(0, mR 0 j 0), (1, mI a1)]) [] M) (k := 8) rfl ?_ ?_
  · show mi_ex mi_pI 27 85 [(0, mR 0 j 0), (1, mI a1)] [] M = _
    refine (mx_steps 2 (pc' := 88) (ls' := [(0, mR 0 j 0), (1, mI a1)]) (st' := [mI 6, mR 0 j 0]) (M' := M) rfl).trans ?_
    refine (mx_callI (z := 30) (as := [mR 0 j 0, mI 6]) (pc' := 91) (ls' := [(0, mR 0 j 0), (1, mI a1)]) (r := []) rfl (Or.inl rfl)).trans ?_
    refine mi_bdc fun q7 => ?_
    exact mx_ret rfl rfl
  show mi_ex mi_pI 27 92 [(0, mR 0 j 0), (1, mI a1)] [] M = _
  refine (mx_steps 2 (pc' := 96) (ls' := [(0, mR 0 j 0), (1, mI a1)]) (st' := [mI (M.1 0 j 3)]) (M' := M) rfl).trans ?_
  exact mx_ret rfl rfl

set_option maxRecDepth 20000 in
theorem fN_followerCount_eq (j : Nat) (M : mM) : fN_followerCount j M = fN_followerCount_L4 j 0 0 M := by
  refine (mx_steps 4 (pc' := 4) (ls' := [(0, mR 0 j 0), (1, mI 0), (2, mI 0)]) (st' := []) (M' := M) rfl).trans ?_
  rfl

set_option maxRecDepth 20000 in
theorem fN_followerCount_L4_eq (j : Nat) (v1 : Int32) (v2 : Int32) (M : mM) : fN_followerCount_L4 j v1 v2 M = (if (M.1 0 j 4) ≤ v2 then some (v1, M) else (mi_ix v2 6).bind fun k1 => (mi_ix 3 8).bind fun k2 => (if (M.1 0 j (6 + 8 * k1 + k2)) = ((-1001)) then fN_followerCount_L4 j v1 (v2 + 1) M else fN_followerCount_L4 j (v1 + 1) (v2 + 1) M)) := by
  refine (mx_steps 3 (pc' := 9) (ls' := [(0, mR 0 j 0), (1, mI v1), (2, mI v2)]) (st' := [mI (M.1 0 j 4), mI v2]) (M' := M) rfl).trans ?_
  refine (mx_if (c := (M.1 0 j 4) ≤ v2) (p1 := 35) (l1 := [(0, mR 0 j 0), (1, mI v1), (2, mI v2)]) (s1 := []) (M1 := M) (p2 := 12) (l2 := [(0, mR 0 j 0), (1, mI v1), (2, mI v2)]) (s2 := []) (M2 := M) rfl).trans ?_
  refine mi_itc ?_ ?_
  · refine (mx_steps 1 (pc' := 36) (ls' := [(0, mR 0 j 0), (1, mI v1), (2, mI v2)]) (st' := [mI v1]) (M' := M) rfl).trans ?_
    exact mx_ret rfl rfl
  · refine (mx_steps 3 (pc' := 17) (ls' := [(0, mR 0 j 0), (1, mI v1), (2, mI v2)]) (st' := [mI v2, mR 11 j 0]) (M' := M) rfl).trans ?_
    refine (mx_ix (i := v2) (n := 6) (pc' := 18) (ls' := [(0, mR 0 j 0), (1, mI v1), (2, mI v2)]) (sf := fun k1 => [mR 12 j k1]) (Mf := fun k1 => M) rfl).trans ?_
    refine mi_bdc fun k1 => ?_
    refine (mx_steps 1 (pc' := 19) (ls' := [(0, mR 0 j 0), (1, mI v1), (2, mI v2)]) (st' := [mI 3, mR 12 j k1]) (M' := M) rfl).trans ?_
    refine (mx_ix (i := 3) (n := 8) (pc' := 20) (ls' := [(0, mR 0 j 0), (1, mI v1), (2, mI v2)]) (sf := fun k2 => [mI (M.1 0 j (6 + 8 * k1 + k2))]) (Mf := fun k2 => M) rfl).trans ?_
    refine mi_bdc fun k2 => ?_
    refine (mx_steps 1 (pc' := 23) (ls' := [(0, mR 0 j 0), (1, mI v1), (2, mI v2)]) (st' := [mI ((-1001)), mI (M.1 0 j (6 + 8 * k1 + k2))]) (M' := M) rfl).trans ?_
    refine (mx_if (c := (M.1 0 j (6 + 8 * k1 + k2)) = ((-1001))) (p1 := 29) (l1 := [(0, mR 0 j 0), (1, mI v1), (2, mI v2)]) (s1 := []) (M1 := M) (p2 := 26) (l2 := [(0, mR 0 j 0), (1, mI v1), (2, mI v2)]) (s2 := []) (M2 := M) rfl).trans ?_
    refine mi_itc ?_ ?_
    · refine (mx_steps 2 (pc' := 4) (ls' := [(0, mR 0 j 0), (1, mI v1), (2, mI (v2 + 1))]) (st' := []) (M' := M) rfl).trans ?_
      rfl
    · refine (mx_steps 3 (pc' := 4) (ls' := [(0, mR 0 j 0), (1, mI (v1 + 1)), (2, mI (v2 + 1))]) (st' := []) (M' := M) rfl).trans ?_
      rfl

set_option maxRecDepth 20000 in
theorem fN_ringCount_eq (j : Nat) (M : mM) : fN_ringCount j M = fN_ringCount_L4 j 0 0 M := by
  refine (mx_steps 4 (pc' := 4) (ls' := [(0, mR 0 j 0), (1, mI 0), (2, mI 0)]) (st' := []) (M' := M) rfl).trans ?_
  rfl

set_option maxRecDepth 20000 in
theorem fN_ringCount_L4_eq (j : Nat) (v1 : Int32) (v2 : Int32) (M : mM) : fN_ringCount_L4 j v1 v2 M = (if (M.1 0 j 4) ≤ v2 then some (v1, M) else (fN_isRing j v2 M).bind fun q1 => (if q1.1 = 0 then fN_ringCount_L4 j v1 (v2 + 1) q1.2 else fN_ringCount_L4 j (v1 + 1) (v2 + 1) q1.2)) := by
  refine (mx_steps 3 (pc' := 9) (ls' := [(0, mR 0 j 0), (1, mI v1), (2, mI v2)]) (st' := [mI (M.1 0 j 4), mI v2]) (M' := M) rfl).trans ?_
  refine (mx_if (c := (M.1 0 j 4) ≤ v2) (p1 := 29) (l1 := [(0, mR 0 j 0), (1, mI v1), (2, mI v2)]) (s1 := []) (M1 := M) (p2 := 12) (l2 := [(0, mR 0 j 0), (1, mI v1), (2, mI v2)]) (s2 := []) (M2 := M) rfl).trans ?_
  refine mi_itc ?_ ?_
  · refine (mx_steps 1 (pc' := 30) (ls' := [(0, mR 0 j 0), (1, mI v1), (2, mI v2)]) (st' := [mI v1]) (M' := M) rfl).trans ?_
    exact mx_ret rfl rfl
  · refine (mx_steps 2 (pc' := 14) (ls' := [(0, mR 0 j 0), (1, mI v1), (2, mI v2)]) (st' := [mI v2, mR 0 j 0]) (M' := M) rfl).trans ?_
    refine (mx_callI (z := 26) (as := [mR 0 j 0, mI v2]) (pc' := 17) (ls' := [(0, mR 0 j 0), (1, mI v1), (2, mI v2)]) (r := []) rfl (Or.inr rfl)).trans ?_
    refine mi_bdc fun q1 => ?_
    refine (mx_if (c := q1.1 = 0) (p1 := 23) (l1 := [(0, mR 0 j 0), (1, mI v1), (2, mI v2)]) (s1 := []) (M1 := q1.2) (p2 := 20) (l2 := [(0, mR 0 j 0), (1, mI v1), (2, mI v2)]) (s2 := []) (M2 := q1.2) rfl).trans ?_
    refine mi_itc ?_ ?_
    · refine (mx_steps 2 (pc' := 4) (ls' := [(0, mR 0 j 0), (1, mI v1), (2, mI (v2 + 1))]) (st' := []) (M' := q1.2) rfl).trans ?_
      rfl
    · refine (mx_steps 3 (pc' := 4) (ls' := [(0, mR 0 j 0), (1, mI (v1 + 1)), (2, mI (v2 + 1))]) (st' := []) (M' := q1.2) rfl).trans ?_
      rfl

set_option maxRecDepth 20000 in
theorem fN_sumOfLinks_eq (j : Nat) (a1 : Int32) (M : mM) : fN_sumOfLinks j a1 M = fN_sumOfLinks_L4 j a1 0 0 M := by
  refine (mx_steps 4 (pc' := 4) (ls' := [(0, mR 0 j 0), (1, mI a1), (2, mI 0), (3, mI 0)]) (st' := []) (M' := M) rfl).trans ?_
  rfl

set_option maxRecDepth 20000 in
theorem fN_sumOfLinks_L4_eq (j : Nat) (v1 : Int32) (v2 : Int32) (v3 : Int32) (M : mM) : fN_sumOfLinks_L4 j v1 v2 v3 M = (if (M.1 0 j 5) ≤ v3 then some (v2, M) else (mi_ix v3 10).bind fun k1 => (mi_ix v1 10).bind fun k2 => fN_sumOfLinks_L4 j v1 (v2 + (M.1 0 j (54 + 10 * k1 + k2))) (v3 + 1) M) := by
  refine (mx_steps 3 (pc' := 9) (ls' := [(0, mR 0 j 0), (1, mI v1), (2, mI v2), (3, mI v3)]) (st' := [mI (M.1 0 j 5), mI v3]) (M' := M) rfl).trans ?_
  refine (mx_if (c := (M.1 0 j 5) ≤ v3) (p1 := 29) (l1 := [(0, mR 0 j 0), (1, mI v1), (2, mI v2), (3, mI v3)]) (s1 := []) (M1 := M) (p2 := 12) (l2 := [(0, mR 0 j 0), (1, mI v1), (2, mI v2), (3, mI v3)]) (s2 := []) (M2 := M) rfl).trans ?_
  refine mi_itc ?_ ?_
  · refine (mx_steps 1 (pc' := 30) (ls' := [(0, mR 0 j 0), (1, mI v1), (2, mI v2), (3, mI v3)]) (st' := [mI v2]) (M' := M) rfl).trans ?_
    exact mx_ret rfl rfl
  · refine (mx_steps 4 (pc' := 18) (ls' := [(0, mR 0 j 0), (1, mI v1), (2, mI v2), (3, mI v3)]) (st' := [mI v3, mR 13 j 0, mI v2]) (M' := M) rfl).trans ?_
    refine (mx_ix (i := v3) (n := 10) (pc' := 19) (ls' := [(0, mR 0 j 0), (1, mI v1), (2, mI v2), (3, mI v3)]) (sf := fun k1 => [mR 14 j k1, mI v2]) (Mf := fun k1 => M) rfl).trans ?_
    refine mi_bdc fun k1 => ?_
    refine (mx_steps 1 (pc' := 20) (ls' := [(0, mR 0 j 0), (1, mI v1), (2, mI v2), (3, mI v3)]) (st' := [mI v1, mR 14 j k1, mI v2]) (M' := M) rfl).trans ?_
    refine (mx_ix (i := v1) (n := 10) (pc' := 21) (ls' := [(0, mR 0 j 0), (1, mI v1), (2, mI v2), (3, mI v3)]) (sf := fun k2 => [mI (M.1 0 j (54 + 10 * k1 + k2)), mI v2]) (Mf := fun k2 => M) rfl).trans ?_
    refine mi_bdc fun k2 => ?_
    refine (mx_steps 4 (pc' := 4) (ls' := [(0, mR 0 j 0), (1, mI v1), (2, mI (v2 + (M.1 0 j (54 + 10 * k1 + k2)))), (3, mI (v3 + 1))]) (st' := []) (M' := M) rfl).trans ?_
    rfl

