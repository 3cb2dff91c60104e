set_option maxRecDepth 20000 in
theorem fS_append_eq (a1 : Int32) (M : mM) : fS_append a1 M = (if (M.1 6 0 0) < 120 then (mi_ix (M.1 6 0 0) 120).bind fun k1 => some (1, mi_set (mi_set M 4 0 (0 + k1) a1) 6 0 0 (((mi_set M 4 0 (0 + k1) a1).1 6 0 0) + 1)) else some (0, M)) := by
  refine (mx_steps 3 (pc' := 6) (ls' := [(0, mR 1 0 0), (1, mI a1)]) (st' := [mI 120, mI (M.1 6 0 0)]) (M' := M) rfl).trans ?_
  refine (mx_if (c := (M.1 6 0 0) < 120) (p1 := 11) (l1 := [(0, mR 1 0 0), (1, mI a1)]) (s1 := []) (M1 := M) (p2 := 9) (l2 := [(0, mR 1 0 0), (1, mI a1)]) (s2 := []) (M2 := M) rfl).trans ?_
  refine mi_itc ?_ ?_
  · refine (mx_steps 5 (pc' := 20) (ls' := [(0, mR 1 0 0), (1, mI a1)]) (st' := [mI a1, mI (M.1 6 0 0), mR 22 0 0]) (M' := M) rfl).trans ?_
    refine (mx_ix (i := M.1 6 0 0) (n := 120) (pc' := 21) (ls' := [(0, mR 1 0 0), (1, mI a1)]) (sf := fun k1 => []) (Mf := fun k1 => mi_set M 4 0 (0 + k1) a1) rfl).trans ?_
    refine mi_bdc fun k1 => ?_
    refine (mx_steps 7 (pc' := 32) (ls' := [(0, mR 1 0 0), (1, mI a1)]) (st' := [mI 1]) (M' := mi_set (mi_set M 4 0 (0 + k1) a1) 6 0 0 (((mi_set M 4 0 (0 + k1) a1).1 6 0 0) + 1)) rfl).trans ?_
    exact mx_ret rfl rfl
  · refine (mx_steps 1 (pc' := 10) (ls' := [(0, mR 1 0 0), (1, mI a1)]) (st' := [mI 0]) (M' := M) rfl).trans ?_
    exact mx_ret rfl rfl

set_option maxRecDepth 20000 in
theorem fS_read_eq (M : mM) : fS_read M = (fS_skipBlanks (mi_set (mi_set M 6 0 1 0) 6 0 2 0)).bind fun M1 => fS_read_L16 0 M1 := by
  refine (mx_steps 7 (pc' := 11) (ls' := [(0, mR 1 0 0)]) (st' := [mR 1 0 0]) (M' := mi_set (mi_set M 6 0 1 0) 6 0 2 0) rfl).trans ?_
  refine (mx_callV (z := 35) (as := [mR 1 0 0]) (pc' := 14) (ls' := [(0, mR 1 0 0)]) (r := []) rfl rfl).trans ?_
  refine mi_bdc fun M1 => ?_
  refine (mx_steps 2 (pc' := 16) (ls' := [(0, mR 1 0 0), (1, mI 0)]) (st' := []) (M' := M1) rfl).trans ?_
  rfl

set_option maxRecDepth 20000 in
theorem fS_read_L16_eq (v1 : Int32) (M : mM) : fS_read_L16 v1 M = (if 40 ≤ v1 then some (1, M) else (if v1 = 0 then fS_read_L37 v1 M else (if (M.1 6 0 0) ≤ (M.1 6 0 1) then some (1, M) else fS_read_L37 v1 M))) := by
  refine (mx_steps 2 (pc' := 19) (ls' := [(0, mR 1 0 0), (1, mI v1)]) (st' := [mI 40, mI v1]) (M' := M) rfl).trans ?_
  refine (mx_if (c := 40 ≤ v1) (p1 := 69) (l1 := [(0, mR 1 0 0), (1, mI v1)]) (s1 := []) (M1 := M) (p2 := 22) (l2 := [(0, mR 1 0 0), (1, mI v1)]) (s2 := []) (M2 := M) rfl).trans ?_
  refine mi_itc ?_ ?_
  · refine (mx_steps 1 (pc' := 70) (ls' := [(0, mR 1 0 0), (1, mI v1)]) (st' := [mI 1]) (M' := M) rfl).trans ?_
    exact mx_ret rfl rfl
  · refine (mx_steps 1 (pc' := 23) (ls' := [(0, mR 1 0 0), (1, mI v1)]) (st' := [mI v1]) (M' := M) rfl).trans ?_
    refine (mx_if (c := v1 = 0) (p1 := 37) (l1 := [(0, mR 1 0 0), (1, mI v1)]) (s1 := []) (M1 := M) (p2 := 26) (l2 := [(0, mR 1 0 0), (1, mI v1)]) (s2 := []) (M2 := M) rfl).trans ?_
    refine mi_itc ?_ ?_
    · rfl
    · refine (mx_steps 4 (pc' := 34) (ls' := [(0, mR 1 0 0), (1, mI v1)]) (st' := [mI (M.1 6 0 0), mI (M.1 6 0 1)]) (M' := M) rfl).trans ?_
      refine (mx_if (c := (M.1 6 0 0) ≤ (M.1 6 0 1)) (p1 := 69) (l1 := [(0, mR 1 0 0), (1, mI v1)]) (s1 := []) (M1 := M) (p2 := 37) (l2 := [(0, mR 1 0 0), (1, mI v1)]) (s2 := []) (M2 := M) rfl).trans ?_
      refine mi_itc ?_ ?_
      · refine (mx_steps 1 (pc' := 70) (ls' := [(0, mR 1 0 0), (1, mI v1)]) (st' := [mI 1]) (M' := M) rfl).trans ?_
        exact mx_ret rfl rfl
      · rfl

set_option maxRecDepth 20000 in
theorem fS_read_L37_eq (v1 : Int32) (M : mM) : fS_read_L37 v1 M = (mi_ix v1 40).bind fun k1 => (fS_readOrder k1 M).bind fun q2 => (if ¬ q2.1 = 0 then (fS_skipBlanks (mi_set q2.2 6 0 2 (v1 + 1))).bind fun M3 => fS_read_L16 (v1 + 1) M3 else some (0, q2.2)) := by
  refine (mx_steps 4 (pc' := 43) (ls' := [(0, mR 1 0 0), (1, mI v1)]) (st' := [mI v1, mR 20 0 0, mR 1 0 0]) (M' := M) rfl).trans ?_
  refine (mx_ix (i := v1) (n := 40) (pc' := 44) (ls' := [(0, mR 1 0 0), (1, mI v1)]) (sf := fun k1 => [mR 21 0 k1, mR 1 0 0]) (Mf := fun k1 => M) rfl).trans ?_
  refine mi_bdc fun k1 => ?_
  refine (mx_callI (z := 33) (as := [mR 1 0 0, mR 21 0 k1]) (pc' := 47) (ls' := [(0, mR 1 0 0), (1, mI v1)]) (r := []) rfl (Or.inr rfl)).trans ?_
  refine mi_bdc fun q2 => ?_
  refine (mx_if (c := ¬ q2.1 = 0) (p1 := 52) (l1 := [(0, mR 1 0 0), (1, mI v1)]) (s1 := []) (M1 := q2.2) (p2 := 50) (l2 := [(0, mR 1 0 0), (1, mI v1)]) (s2 := []) (M2 := q2.2) rfl).trans ?_
  refine mi_itc ?_ ?_
  · refine (mx_steps 6 (pc' := 60) (ls' := [(0, mR 1 0 0), (1, mI v1)]) (st' := [mR 1 0 0]) (M' := mi_set q2.2 6 0 2 (v1 + 1)) rfl).trans ?_
    refine (mx_callV (z := 35) (as := [mR 1 0 0]) (pc' := 63) (ls' := [(0, mR 1 0 0), (1, mI v1)]) (r := []) rfl rfl).trans ?_
    refine mi_bdc fun M3 => ?_
    refine (mx_steps 2 (pc' := 16) (ls' := [(0, mR 1 0 0), (1, mI (v1 + 1))]) (st' := []) (M' := M3) rfl).trans ?_
    rfl
  · refine (mx_steps 1 (pc' := 51) (ls' := [(0, mR 1 0 0), (1, mI v1)]) (st' := [mI 0]) (M' := q2.2) rfl).trans ?_
    exact mx_ret rfl rfl

set_option maxRecDepth 20000 in
theorem fS_readOrder_eq (i : Nat) (M : mM) : fS_readOrder i M = (fS_current M).bind fun q1 => (fS_numbersOf q1.1 q1.2).bind fun q2 => (if ¬ q2.1 = 0 then (mi_ix 0 4).bind fun k3 => (if q1.1 = 110 then fS_readOrder_L52 i q2.1 1 1 (mi_set (mi_set q2.2 6 0 1 ((q2.2.1 6 0 1) + 1)) 5 0 (4 * i + k3) q1.1) else (if ¬ q1.1 = 111 then fS_readOrder_L52 i q2.1 0 1 (mi_set (mi_set q2.2 6 0 1 ((q2.2.1 6 0 1) + 1)) 5 0 (4 * i + k3) q1.1) else fS_readOrder_L52 i q2.1 1 1 (mi_set (mi_set q2.2 6 0 1 ((q2.2.1 6 0 1) + 1)) 5 0 (4 * i + k3) q1.1))) else some (0, q2.2)) := by
  refine (mx_steps 1 (pc' := 1) (ls' := [(0, mR 1 0 0), (1, mR 21 0 i)]) (st' := [mR 1 0 0]) (M' := M) rfl).trans ?_
  refine (mx_callI (z := 36) (as := [mR 1 0 0]) (pc' := 4) (ls' := [(0, mR 1 0 0), (1, mR 21 0 i)]) (r := []) rfl (Or.inl rfl)).trans ?_
  refine mi_bdc fun q1 => ?_
  refine (mx_steps 2 (pc' := 6) (ls' := [(0, mR 1 0 0), (1, mR 21 0 i), (2, mI q1.1)]) (st' := [mI q1.1]) (M' := q1.2) rfl).trans ?_
  refine (mx_callI (z := 38) (as := [mI q1.1]) (pc' := 9) (ls' := [(0, mR 1 0 0), (1, mR 21 0 i), (2, mI q1.1)]) (r := []) rfl (Or.inl rfl)).trans ?_
  refine mi_bdc fun q2 => ?_
  refine (mx_steps 2 (pc' := 11) (ls' := [(0, mR 1 0 0), (1, mR 21 0 i), (2, mI q1.1), (3, mI q2.1)]) (st' := [mI q2.1]) (M' := q2.2) rfl).trans ?_
  refine (mx_if (c := ¬ q2.1 = 0) (p1 := 16) (l1 := [(0, mR 1 0 0), (1, mR 21 0 i), (2, mI q1.1), (3, mI q2.1)]) (s1 := []) (M1 := q2.2) (p2 := 14) (l2 := [(0, mR 1 0 0), (1, mR 21 0 i), (2, mI q1.1), (3, mI q2.1)]) (s2 := []) (M2 := q2.2) rfl).trans ?_
  refine mi_itc ?_ ?_
  · refine (mx_steps 9 (pc' := 29) (ls' := [(0, mR 1 0 0), (1, mR 21 0 i), (2, mI q1.1), (3, mI q2.1)]) (st' := [mI q1.1, mI 0, mR 21 0 i]) (M' := mi_set q2.2 6 0 1 ((q2.2.1 6 0 1) + 1)) rfl).trans ?_
    refine (mx_ix (i := 0) (n := 4) (pc' := 30) (ls' := [(0, mR 1 0 0), (1, mR 21 0 i), (2, mI q1.1), (3, mI q2.1)]) (sf := fun k3 => []) (Mf := fun k3 => mi_set (mi_set q2.2 6 0 1 ((q2.2.1 6 0 1) + 1)) 5 0 (4 * i + k3) q1.1) rfl).trans ?_
    refine mi_bdc fun k3 => ?_
    refine (mx_steps 2 (pc' := 33) (ls' := [(0, mR 1 0 0), (1, mR 21 0 i), (2, mI q1.1), (3, mI q2.1)]) (st' := [mI 110, mI q1.1]) (M' := mi_set (mi_set q2.2 6 0 1 ((q2.2.1 6 0 1) + 1)) 5 0 (4 * i + k3) q1.1) rfl).trans ?_
    refine (mx_if (c := q1.1 = 110) (p1 := 42) (l1 := [(0, mR 1 0 0), (1, mR 21 0 i), (2, mI q1.1), (3, mI q2.1)]) (s1 := []) (M1 := mi_set (mi_set q2.2 6 0 1 ((q2.2.1 6 0 1) + 1)) 5 0 (4 * i + k3) q1.1) (p2 := 36) (l2 := [(0, mR 1 0 0), (1, mR 21 0 i), (2, mI q1.1), (3, mI q2.1)]) (s2 := []) (M2 := mi_set (mi_set q2.2 6 0 1 ((q2.2.1 6 0 1) + 1)) 5 0 (4 * i + k3) q1.1) rfl).trans ?_
    refine mi_itc ?_ ?_
    · refine (mx_steps 5 (pc' := 52) (ls' := [(0, mR 1 0 0), (1, mR 21 0 i), (3, mI q2.1), (4, mI 1), (5, mI 1)]) (st' := []) (M' := mi_set (mi_set q2.2 6 0 1 ((q2.2.1 6 0 1) + 1)) 5 0 (4 * i + k3) q1.1) rfl).trans ?_
      rfl
    · refine (mx_steps 2 (pc' := 39) (ls' := [(0, mR 1 0 0), (1, mR 21 0 i), (2, mI q1.1), (3, mI q2.1)]) (st' := [mI 111, mI q1.1]) (M' := mi_set (mi_set q2.2 6 0 1 ((q2.2.1 6 0 1) + 1)) 5 0 (4 * i + k3) q1.1) rfl).trans ?_
      refine (mx_if (c := ¬ q1.1 = 111) (p1 := 46) (l1 := [(0, mR 1 0 0), (1, mR 21 0 i), (2, mI q1.1), (3, mI q2.1)]) (s1 := []) (M1 := mi_set (mi_set q2.2 6 0 1 ((q2.2.1 6 0 1) + 1)) 5 0 (4 * i + k3) q1.1) (p2 := 42) (l2 := [(0, mR 1 0 0), (1, mR 21 0 i), (2, mI q1.1), (3, mI q2.1)]) (s2 := []) (M2 := mi_set (mi_set q2.2 6 0 1 ((q2.2.1 6 0 1) + 1)) 5 0 (4 * i + k3) q1.1) rfl).trans ?_
      refine mi_itc ?_ ?_
      · refine (mx_steps 4 (pc' := 52) (ls' := [(0, mR 1 0 0), (1, mR 21 0 i), (3, mI q2.1), (4, mI 0), (5, mI 1)]) (st' := []) (M' := mi_set (mi_set q2.2 6 0 1 ((q2.2.1 6 0 1) + 1)) 5 0 (4 * i + k3) q1.1) rfl).trans ?_
        rfl
      · refine (mx_steps 5 (pc' := 52) (ls' := [(0, mR 1 0 0), (1, mR 21 0 i), (3, mI q2.1), (4, mI 1), (5, mI 1)]) (st' := []) (M' := mi_set (mi_set q2.2 6 0 1 ((q2.2.1 6 0 1) + 1)) 5 0 (4 * i + k3) q1.1) rfl).trans ?_
        rfl
  · refine (mx_steps 1 (pc' := 15) (ls' := [(0, mR 1 0 0), (1, mR 21 0 i), (2, mI q1.1), (3, mI q2.1)]) (st' := [mI 0]) (M' := q2.2) rfl).trans ?_
    exact mx_ret rfl rfl

set_option maxRecDepth 20000 in
theorem fS_readOrder_L52_eq (i : Nat) (v3 : Int32) (v4 : Int32) (v5 : Int32) (M : mM) : fS_readOrder_L52 i v3 v4 v5 M = (if v3 < v5 then (fS_skipBlanks M).bind fun M1 => (fS_current M1).bind fun q2 => (if q2.1 = 59 then some (1, mi_set q2.2 6 0 1 ((q2.2.1 6 0 1) + 1)) else some (0, q2.2)) else (fS_skipBlanks M).bind fun M3 => (if v4 = 0 then fS_readOrder_L81 i v3 v4 v5 v5 M3 else (if ¬ v5 = v3 then fS_readOrder_L81 i v3 v4 v5 v5 M3 else fS_readOrder_L82 i v3 v4 v5 v5 1 M3))) := by
  refine (mx_steps 2 (pc' := 55) (ls' := [(0, mR 1 0 0), (1, mR 21 0 i), (3, mI v3), (4, mI v4), (5, mI v5)]) (st' := [mI v3, mI v5]) (M' := M) rfl).trans ?_
  refine (mx_if (c := v3 < v5) (p1 := 96) (l1 := [(0, mR 1 0 0), (1, mR 21 0 i), (3, mI v3), (4, mI v4), (5, mI v5)]) (s1 := []) (M1 := M) (p2 := 58) (l2 := [(0, mR 1 0 0), (1, mR 21 0 i), (3, mI v3), (4, mI v4), (5, mI v5)]) (s2 := []) (M2 := M) rfl).trans ?_
  refine mi_itc ?_ ?_
  · refine (mx_steps 1 (pc' := 97) (ls' := [(0, mR 1 0 0), (1, mR 21 0 i), (3, mI v3), (4, mI v4), (5, mI v5)]) (st' := [mR 1 0 0]) (M' := M) rfl).trans ?_
    refine (mx_callV (z := 35) (as := [mR 1 0 0]) (pc' := 100) (ls' := [(0, mR 1 0 0), (1, mR 21 0 i), (3, mI v3), (4, mI v4), (5, mI v5)]) (r := []) rfl rfl).trans ?_
    refine mi_bdc fun M1 => ?_
    refine (mx_steps 1 (pc' := 101) (ls' := [(0, mR 1 0 0), (1, mR 21 0 i), (3, mI v3), (4, mI v4), (5, mI v5)]) (st' := [mR 1 0 0]) (M' := M1) rfl).trans ?_
    refine (mx_callI (z := 36) (as := [mR 1 0 0]) (pc' := 104) (ls' := [(0, mR 1 0 0), (1, mR 21 0 i), (3, mI v3), (4, mI v4), (5, mI v5)]) (r := []) rfl (Or.inl rfl)).trans ?_
    refine mi_bdc fun q2 => ?_
    refine (mx_steps 1 (pc' := 106) (ls' := [(0, mR 1 0 0), (1, mR 21 0 i), (3, mI v3), (4, mI v4), (5, mI v5)]) (st' := [mI 59, mI q2.1]) (M' := q2.2) rfl).trans ?_
    refine (mx_if (c := q2.1 = 59) (p1 := 111) (l1 := [(0, mR 1 0 0), (1, mR 21 0 i), (3, mI v3), (4, mI v4), (5, mI v5)]) (s1 := []) (M1 := q2.2) (p2 := 109) (l2 := [(0, mR 1 0 0), (1, mR 21 0 i), (3, mI v3), (4, mI v4), (5, mI v5)]) (s2 := []) (M2 := q2.2) rfl).trans ?_
    refine mi_itc ?_ ?_
    · refine (mx_steps 7 (pc' := 122) (ls' := [(0, mR 1 0 0), (1, mR 21 0 i), (3, mI v3), (4, mI v4), (5, mI v5)]) (st' := [mI 1]) (M' := mi_set q2.2 6 0 1 ((q2.2.1 6 0 1) + 1)) rfl).trans ?_
      exact mx_ret rfl rfl
    · refine (mx_steps 1 (pc' := 110) (ls' := [(0, mR 1 0 0), (1, mR 21 0 i), (3, mI v3), (4, mI v4), (5, mI v5)]) (st' := [mI 0]) (M' := q2.2) rfl).trans ?_
      exact mx_ret rfl rfl
  · refine (mx_steps 1 (pc' := 59) (ls' := [(0, mR 1 0 0), (1, mR 21 0 i), (3, mI v3), (4, mI v4), (5, mI v5)]) (st' := [mR 1 0 0]) (M' := M) rfl).trans ?_
    refine (mx_callV (z := 35) (as := [mR 1 0 0]) (pc' := 62) (ls' := [(0, mR 1 0 0), (1, mR 21 0 i), (3, mI v3), (4, mI v4), (5, mI v5)]) (r := []) rfl rfl).trans ?_
    refine mi_bdc fun M3 => ?_
    refine (mx_steps 4 (pc' := 68) (ls' := [(0, mR 1 0 0), (1, mR 21 0 i), (3, mI v3), (4, mI v4), (5, mI v5)]) (st' := [mI v4, mI v5, mR 21 0 i, mR 1 0 0]) (M' := M3) rfl).trans ?_
    refine (mx_if (c := v4 = 0) (p1 := 81) (l1 := [(0, mR 1 0 0), (1, mR 21 0 i), (3, mI v3), (4, mI v4), (5, mI v5)]) (s1 := [mI v5, mR 21 0 i, mR 1 0 0]) (M1 := M3) (p2 := 71) (l2 := [(0, mR 1 0 0), (1, mR 21 0 i), (3, mI v3), (4, mI v4), (5, mI v5)]) (s2 := [mI v5, mR 21 0 i, mR 1 0 0]) (M2 := M3) rfl).trans ?_
    refine mi_itc ?_ ?_
    · rfl
    · refine (mx_steps 2 (pc' := 74) (ls' := [(0, mR 1 0 0), (1, mR 21 0 i), (3, mI v3), (4, mI v4), (5, mI v5)]) (st' := [mI v3, mI v5, mI v5, mR 21 0 i, mR 1 0 0]) (M' := M3) rfl).trans ?_
      refine (mx_if (c := ¬ v5 = v3) (p1 := 81) (l1 := [(0, mR 1 0 0), (1, mR 21 0 i), (3, mI v3), (4, mI v4), (5, mI v5)]) (s1 := [mI v5, mR 21 0 i, mR 1 0 0]) (M1 := M3) (p2 := 77) (l2 := [(0, mR 1 0 0), (1, mR 21 0 i), (3, mI v3), (4, mI v4), (5, mI v5)]) (s2 := [mI v5, mR 21 0 i, mR 1 0 0]) (M2 := M3) rfl).trans ?_
      refine mi_itc ?_ ?_
      · rfl
      · refine (mx_steps 2 (pc' := 82) (ls' := [(0, mR 1 0 0), (1, mR 21 0 i), (3, mI v3), (4, mI v4), (5, mI v5)]) (st' := [mI 1, mI v5, mR 21 0 i, mR 1 0 0]) (M' := M3) rfl).trans ?_
        rfl

set_option maxRecDepth 20000 in
theorem fS_readOrder_L81_eq (i : Nat) (v3 : Int32) (v4 : Int32) (v5 : Int32) (s2 : Int32) (M : mM) : fS_readOrder_L81 i v3 v4 v5 s2 M = fS_readOrder_L82 i v3 v4 v5 s2 0 M := by
  refine (mx_steps 1 (pc' := 82) (ls' := [(0, mR 1 0 0), (1, mR 21 0 i), (3, mI v3), (4, mI v4), (5, mI v5)]) (st' := [mI 0, mI s2, mR 21 0 i, mR 1 0 0]) (M' := M) rfl).trans ?_
  rfl

set_option maxRecDepth 20000 in
theorem fS_readOrder_L82_eq (i : Nat) (v3 : Int32) (v4 : Int32) (v5 : Int32) (s2 : Int32) (s3 : Int32) (M : mM) : fS_readOrder_L82 i v3 v4 v5 s2 s3 M = (fS_readNumber i s2 s3 M).bind fun q1 => (if ¬ q1.1 = 0 then fS_readOrder_L52 i v3 v4 (v5 + 1) q1.2 else some (0, q1.2)) := by
  refine (mx_callI (z := 34) (as := [mR 1 0 0, mR 21 0 i, mI s2, mI s3]) (pc' := 85) (ls' := [(0, mR 1 0 0), (1, mR 21 0 i), (3, mI v3), (4, mI v4), (5, mI v5)]) (r := []) rfl (Or.inr rfl)).trans ?_
  refine mi_bdc fun q1 => ?_
  refine (mx_if (c := ¬ q1.1 = 0) (p1 := 90) (l1 := [(0, mR 1 0 0), (1, mR 21 0 i), (3, mI v3), (4, mI v4), (5, mI v5)]) (s1 := []) (M1 := q1.2) (p2 := 88) (l2 := [(0, mR 1 0 0), (1, mR 21 0 i), (3, mI v3), (4, mI v4), (5, mI v5)]) (s2 := []) (M2 := q1.2) rfl).trans ?_
  refine mi_itc ?_ ?_
  · refine (mx_steps 2 (pc' := 52) (ls' := [(0, mR 1 0 0), (1, mR 21 0 i), (3, mI v3), (4, mI v4), (5, mI (v5 + 1))]) (st' := []) (M' := q1.2) rfl).trans ?_
    rfl
  · refine (mx_steps 1 (pc' := 89) (ls' := [(0, mR 1 0 0), (1, mR 21 0 i), (3, mI v3), (4, mI v4), (5, mI v5)]) (st' := [mI 0]) (M' := q1.2) rfl).trans ?_
    exact mx_ret rfl rfl

set_option maxRecDepth 20000 in
theorem fS_readNumber_eq (i : Nat) (a2 : Int32) (a3 : Int32) (M : mM) : fS_readNumber i a2 a3 M = (if a3 = 0 then fS_readNumber_L17 i a2 M else (fS_current M).bind fun q1 => (if ¬ q1.1 = 45 then fS_readNumber_L17 i a2 q1.2 else fS_readNumber_L18 i a2 1 q1.2)) := by
  refine (mx_steps 1 (pc' := 1) (ls' := [(0, mR 1 0 0), (1, mR 21 0 i), (2, mI a2), (3, mI a3)]) (st' := [mI a3]) (M' := M) rfl).trans ?_
  refine (mx_if (c := a3 = 0) (p1 := 17) (l1 := [(0, mR 1 0 0), (1, mR 21 0 i), (2, mI a2)]) (s1 := []) (M1 := M) (p2 := 4) (l2 := [(0, mR 1 0 0), (1, mR 21 0 i), (2, mI a2), (3, mI a3)]) (s2 := []) (M2 := M) rfl).trans ?_
  refine mi_itc ?_ ?_
  · rfl
  · refine (mx_steps 1 (pc' := 5) (ls' := [(0, mR 1 0 0), (1, mR 21 0 i), (2, mI a2), (3, mI a3)]) (st' := [mR 1 0 0]) (M' := M) rfl).trans ?_
    refine (mx_callI (z := 36) (as := [mR 1 0 0]) (pc' := 8) (ls' := [(0, mR 1 0 0), (1, mR 21 0 i), (2, mI a2), (3, mI a3)]) (r := []) rfl (Or.inl rfl)).trans ?_
    refine mi_bdc fun q1 => ?_
    refine (mx_steps 1 (pc' := 10) (ls' := [(0, mR 1 0 0), (1, mR 21 0 i), (2, mI a2), (3, mI a3)]) (st' := [mI 45, mI q1.1]) (M' := q1.2) rfl).trans ?_
    refine (mx_if (c := ¬ q1.1 = 45) (p1 := 17) (l1 := [(0, mR 1 0 0), (1, mR 21 0 i), (2, mI a2)]) (s1 := []) (M1 := q1.2) (p2 := 13) (l2 := [(0, mR 1 0 0), (1, mR 21 0 i), (2, mI a2), (3, mI a3)]) (s2 := []) (M2 := q1.2) rfl).trans ?_
    refine mi_itc ?_ ?_
    · rfl
    · refine (mx_steps 2 (pc' := 18) (ls' := [(0, mR 1 0 0), (1, mR 21 0 i), (2, mI a2)]) (st' := [mI 1]) (M' := q1.2) rfl).trans ?_
      rfl

set_option maxRecDepth 20000 in
theorem fS_readNumber_L17_eq (i : Nat) (v2 : Int32) (M : mM) : fS_readNumber_L17 i v2 M = fS_readNumber_L18 i v2 0 M := by
  refine (mx_steps 1 (pc' := 18) (ls' := [(0, mR 1 0 0), (1, mR 21 0 i), (2, mI v2)]) (st' := [mI 0]) (M' := M) rfl).trans ?_
  rfl

set_option maxRecDepth 20000 in
theorem fS_readNumber_L18_eq (i : Nat) (v2 : Int32) (s0 : Int32) (M : mM) : fS_readNumber_L18 i v2 s0 M = (if s0 = 0 then fS_readNumber_L41 i v2 s0 0 0 M else fS_readNumber_L41 i v2 s0 0 0 (mi_set M 6 0 1 ((M.1 6 0 1) + 1))) := by
  refine (mx_steps 2 (pc' := 22) (ls' := [(0, mR 1 0 0), (1, mR 21 0 i), (2, mI v2), (4, mI s0)]) (st' := [mI s0]) (M' := M) rfl).trans ?_
  refine (mx_if (c := s0 = 0) (p1 := 35) (l1 := [(0, mR 1 0 0), (1, mR 21 0 i), (2, mI v2), (4, mI s0)]) (s1 := []) (M1 := M) (p2 := 25) (l2 := [(0, mR 1 0 0), (1, mR 21 0 i), (2, mI v2), (4, mI s0)]) (s2 := []) (M2 := M) rfl).trans ?_
  refine mi_itc ?_ ?_
  · refine (mx_steps 4 (pc' := 41) (ls' := [(0, mR 1 0 0), (1, mR 21 0 i), (2, mI v2), (4, mI s0), (5, mI 0), (6, mI 0)]) (st' := []) (M' := M) rfl).trans ?_
    rfl
  · refine (mx_steps 10 (pc' := 41) (ls' := [(0, mR 1 0 0), (1, mR 21 0 i), (2, mI v2), (4, mI s0), (5, mI 0), (6, mI 0)]) (st' := []) (M' := mi_set M 6 0 1 ((M.1 6 0 1) + 1)) rfl).trans ?_
    rfl

set_option maxRecDepth 20000 in
theorem fS_readNumber_L41_eq (i : Nat) (v2 : Int32) (v4 : Int32) (v5 : Int32) (v6 : Int32) (M : mM) : fS_readNumber_L41 i v2 v4 v5 v6 M = (if 3 ≤ v5 then fS_readNumber_L88 i v2 v4 v5 v6 M else (fS_current M).bind fun q1 => (fS_isFigure q1.1 q1.2).bind fun q2 => (if q2.1 = 0 then fS_readNumber_L88 i v2 v4 v5 v6 q2.2 else (fS_current q2.2).bind fun q3 => fS_readNumber_L41 i v2 v4 (v5 + 1) (((10 * v6) + q3.1) - 48) (mi_set q3.2 6 0 1 ((q3.2.1 6 0 1) + 1)))) := by
  refine (mx_steps 2 (pc' := 44) (ls' := [(0, mR 1 0 0), (1, mR 21 0 i), (2, mI v2), (4, mI v4), (5, mI v5), (6, mI v6)]) (st' := [mI 3, mI v5]) (M' := M) rfl).trans ?_
  refine (mx_if (c := 3 ≤ v5) (p1 := 88) (l1 := [(0, mR 1 0 0), (1, mR 21 0 i), (2, mI v2), (4, mI v4), (5, mI v5), (6, mI v6)]) (s1 := []) (M1 := M) (p2 := 47) (l2 := [(0, mR 1 0 0), (1, mR 21 0 i), (2, mI v2), (4, mI v4), (5, mI v5), (6, mI v6)]) (s2 := []) (M2 := M) rfl).trans ?_
  refine mi_itc ?_ ?_
  · rfl
  · refine (mx_steps 1 (pc' := 48) (ls' := [(0, mR 1 0 0), (1, mR 21 0 i), (2, mI v2), (4, mI v4), (5, mI v5), (6, mI v6)]) (st' := [mR 1 0 0]) (M' := M) rfl).trans ?_
    refine (mx_callI (z := 36) (as := [mR 1 0 0]) (pc' := 51) (ls' := [(0, mR 1 0 0), (1, mR 21 0 i), (2, mI v2), (4, mI v4), (5, mI v5), (6, mI v6)]) (r := []) rfl (Or.inl rfl)).trans ?_
    refine mi_bdc fun q1 => ?_
    refine (mx_callI (z := 37) (as := [mI q1.1]) (pc' := 54) (ls' := [(0, mR 1 0 0), (1, mR 21 0 i), (2, mI v2), (4, mI v4), (5, mI v5), (6, mI v6)]) (r := []) rfl (Or.inr rfl)).trans ?_
    refine mi_bdc fun q2 => ?_
    refine (mx_if (c := q2.1 = 0) (p1 := 88) (l1 := [(0, mR 1 0 0), (1, mR 21 0 i), (2, mI v2), (4, mI v4), (5, mI v5), (6, mI v6)]) (s1 := []) (M1 := q2.2) (p2 := 57) (l2 := [(0, mR 1 0 0), (1, mR 21 0 i), (2, mI v2), (4, mI v4), (5, mI v5), (6, mI v6)]) (s2 := []) (M2 := q2.2) rfl).trans ?_
    refine mi_itc ?_ ?_
    · rfl
    · refine (mx_steps 4 (pc' := 63) (ls' := [(0, mR 1 0 0), (1, mR 21 0 i), (2, mI v2), (4, mI v4), (5, mI v5), (6, mI v6)]) (st' := [mR 1 0 0, mI (10 * v6)]) (M' := q2.2) rfl).trans ?_
      refine (mx_callI (z := 36) (as := [mR 1 0 0]) (pc' := 66) (ls' := [(0, mR 1 0 0), (1, mR 21 0 i), (2, mI v2), (4, mI v4), (5, mI v5), (6, mI v6)]) (r := [mI (10 * v6)]) rfl (Or.inl rfl)).trans ?_
      refine mi_bdc fun q3 => ?_
      refine (mx_steps 12 (pc' := 41) (ls' := [(0, mR 1 0 0), (1, mR 21 0 i), (2, mI v2), (4, mI v4), (5, mI (v5 + 1)), (6, mI (((10 * v6) + q3.1) - 48))]) (st' := []) (M' := mi_set q3.2 6 0 1 ((q3.2.1 6 0 1) + 1)) rfl).trans ?_
      rfl

set_option maxRecDepth 20000 in
theorem fS_readNumber_L88_eq (i : Nat) (v2 : Int32) (v4 : Int32) (v5 : Int32) (v6 : Int32) (M : mM) : fS_readNumber_L88 i v2 v4 v5 v6 M = (if v4 = 0 then fS_readNumber_L103 i v5 v2 v6 M else fS_readNumber_L103 i v5 v2 (-v6) M) := by
  refine (mx_steps 3 (pc' := 92) (ls' := [(0, mR 1 0 0), (1, mR 21 0 i), (2, mI v2), (4, mI v4), (5, mI v5), (6, mI v6)]) (st' := [mI v4, mI v2, mR 21 0 i]) (M' := M) rfl).trans ?_
  refine (mx_if (c := v4 = 0) (p1 := 101) (l1 := [(0, mR 1 0 0), (1, mR 21 0 i), (2, mI v2), (4, mI v4), (5, mI v5), (6, mI v6)]) (s1 := [mI v2, mR 21 0 i]) (M1 := M) (p2 := 95) (l2 := [(0, mR 1 0 0), (1, mR 21 0 i), (2, mI v2), (4, mI v4), (5, mI v5), (6, mI v6)]) (s2 := [mI v2, mR 21 0 i]) (M2 := M) rfl).trans ?_
  refine mi_itc ?_ ?_
  · refine (mx_steps 1 (pc' := 103) (ls' := [(0, mR 1 0 0), (5, mI v5)]) (st' := [mI v6, mI v2, mR 21 0 i]) (M' := M) rfl).trans ?_
    rfl
  · refine (mx_steps 3 (pc' := 103) (ls' := [(0, mR 1 0 0), (5, mI v5)]) (st' := [mI (-v6), mI v2, mR 21 0 i]) (M' := M) rfl).trans ?_
    rfl

set_option maxRecDepth 20000 in
theorem fS_readNumber_L103_eq (i : Nat) (v5 : Int32) (s1 : Int32) (s2 : Int32) (M : mM) : fS_readNumber_L103 i v5 s1 s2 M = (mi_ix s1 4).bind fun k1 => (if v5 ≤ 0 then some (0, mi_set M 5 0 (4 * i + k1) s2) else (fS_current (mi_set M 5 0 (4 * i + k1) s2)).bind fun q2 => (fS_isFigure q2.1 q2.2).bind fun q3 => (if ¬ q3.1 = 0 then some (0, q3.2) else some (1, q3.2))) := by
  refine (mx_ix (i := s1) (n := 4) (pc' := 104) (ls' := [(0, mR 1 0 0), (5, mI v5)]) (sf := fun k1 => []) (Mf := fun k1 => mi_set M 5 0 (4 * i + k1) s2) rfl).trans ?_
  refine mi_bdc fun k1 => ?_
  refine (mx_steps 1 (pc' := 106) (ls' := [(0, mR 1 0 0), (5, mI v5)]) (st' := [mI v5]) (M' := mi_set M 5 0 (4 * i + k1) s2) rfl).trans ?_
  refine (mx_if (c := v5 ≤ 0) (p1 := 123) (l1 := [(0, mR 1 0 0), (5, mI v5)]) (s1 := []) (M1 := mi_set M 5 0 (4 * i + k1) s2) (p2 := 109) (l2 := [(0, mR 1 0 0), (5, mI v5)]) (s2 := []) (M2 := mi_set M 5 0 (4 * i + k1) s2) rfl).trans ?_
  refine mi_itc ?_ ?_
  · refine (mx_steps 1 (pc' := 124) (ls' := [(0, mR 1 0 0), (5, mI v5)]) (st' := [mI 0]) (M' := mi_set M 5 0 (4 * i + k1) s2) rfl).trans ?_
    exact mx_ret rfl rfl
  · refine (mx_steps 1 (pc' := 110) (ls' := [(0, mR 1 0 0), (5, mI v5)]) (st' := [mR 1 0 0]) (M' := mi_set M 5 0 (4 * i + k1) s2) rfl).trans ?_
    refine (mx_callI (z := 36) (as := [mR 1 0 0]) (pc' := 113) (ls' := [(0, mR 1 0 0), (5, mI v5)]) (r := []) rfl (Or.inl rfl)).trans ?_
    refine mi_bdc fun q2 => ?_
    refine (mx_callI (z := 37) (as := [mI q2.1]) (pc' := 116) (ls' := [(0, mR 1 0 0), (5, mI v5)]) (r := []) rfl (Or.inr rfl)).trans ?_
    refine mi_bdc fun q3 => ?_
    refine (mx_if (c := ¬ q3.1 = 0) (p1 := 123) (l1 := [(0, mR 1 0 0), (5, mI v5)]) (s1 := []) (M1 := q3.2) (p2 := 119) (l2 := [(0, mR 1 0 0), (5, mI v5)]) (s2 := []) (M2 := q3.2) rfl).trans ?_
    refine mi_itc ?_ ?_
    · refine (mx_steps 1 (pc' := 124) (ls' := [(0, mR 1 0 0), (5, mI v5)]) (st' := [mI 0]) (M' := q3.2) rfl).trans ?_
      exact mx_ret rfl rfl
    · refine (mx_steps 2 (pc' := 124) (ls' := [(0, mR 1 0 0), (5, mI v5)]) (st' := [mI 1]) (M' := q3.2) rfl).trans ?_
      exact mx_ret rfl rfl

set_option maxRecDepth 20000 in
theorem fS_skipBlanks_eq (M : mM) : fS_skipBlanks M = (if (M.1 6 0 0) ≤ (M.1 6 0 1) then some M else (mi_ix (M.1 6 0 1) 120).bind fun k1 => (if ¬ (M.1 4 0 (0 + k1)) = 32 then some M else fS_skipBlanks_L0 (mi_set M 6 0 1 ((M.1 6 0 1) + 1)))) := by
  refine (mx_steps 4 (pc' := 8) (ls' := [(0, mR 1 0 0)]) (st' := [mI (M.1 6 0 0), mI (M.1 6 0 1)]) (M' := M) rfl).trans ?_
  refine (mx_if (c := (M.1 6 0 0) ≤ (M.1 6 0 1)) (p1 := 38) (l1 := [(0, mR 1 0 0)]) (s1 := []) (M1 := M) (p2 := 11) (l2 := [(0, mR 1 0 0)]) (s2 := []) (M2 := M) rfl).trans ?_
  refine mi_itc ?_ ?_
  · exact mx_ret rfl rfl
  · refine (mx_steps 4 (pc' := 19) (ls' := [(0, mR 1 0 0)]) (st' := [mI (M.1 6 0 1), mR 22 0 0]) (M' := M) rfl).trans ?_
    refine (mx_ix (i := M.1 6 0 1) (n := 120) (pc' := 20) (ls' := [(0, mR 1 0 0)]) (sf := fun k1 => [mI (M.1 4 0 (0 + k1))]) (Mf := fun k1 => M) rfl).trans ?_
    refine mi_bdc fun k1 => ?_
    refine (mx_steps 1 (pc' := 22) (ls' := [(0, mR 1 0 0)]) (st' := [mI 32, mI (M.1 4 0 (0 + k1))]) (M' := M) rfl).trans ?_
    refine (mx_if (c := ¬ (M.1 4 0 (0 + k1)) = 32) (p1 := 38) (l1 := [(0, mR 1 0 0)]) (s1 := []) (M1 := M) (p2 := 25) (l2 := [(0, mR 1 0 0)]) (s2 := []) (M2 := M) rfl).trans ?_
    refine mi_itc ?_ ?_
    · exact mx_ret rfl rfl
    · refine (mx_steps 7 (pc' := 0) (ls' := [(0, mR 1 0 0)]) (st' := []) (M' := mi_set M 6 0 1 ((M.1 6 0 1) + 1)) rfl).trans ?_
      rfl

set_option maxRecDepth 20000 in
theorem fS_skipBlanks_L0_eq (M : mM) : fS_skipBlanks_L0 M = (if (M.1 6 0 0) ≤ (M.1 6 0 1) then some M else (mi_ix (M.1 6 0 1) 120).bind fun k1 => (if ¬ (M.1 4 0 (0 + k1)) = 32 then some M else fS_skipBlanks_L0 (mi_set M 6 0 1 ((M.1 6 0 1) + 1)))) := by
  refine (mx_steps 4 (pc' := 8) (ls' := [(0, mR 1 0 0)]) (st' := [mI (M.1 6 0 0), mI (M.1 6 0 1)]) (M' := M) rfl).trans ?_
  refine (mx_if (c := (M.1 6 0 0) ≤ (M.1 6 0 1)) (p1 := 38) (l1 := [(0, mR 1 0 0)]) (s1 := []) (M1 := M) (p2 := 11) (l2 := [(0, mR 1 0 0)]) (s2 := []) (M2 := M) rfl).trans ?_
  refine mi_itc ?_ ?_
  · exact mx_ret rfl rfl
  · refine (mx_steps 4 (pc' := 19) (ls' := [(0, mR 1 0 0)]) (st' := [mI (M.1 6 0 1), mR 22 0 0]) (M' := M) rfl).trans ?_
    refine (mx_ix (i := M.1 6 0 1) (n := 120) (pc' := 20) (ls' := [(0, mR 1 0 0)]) (sf := fun k1 => [mI (M.1 4 0 (0 + k1))]) (Mf := fun k1 => M) rfl).trans ?_
    refine mi_bdc fun k1 => ?_
    refine (mx_steps 1 (pc' := 22) (ls' := [(0, mR 1 0 0)]) (st' := [mI 32, mI (M.1 4 0 (0 + k1))]) (M' := M) rfl).trans ?_
    refine (mx_if (c := ¬ (M.1 4 0 (0 + k1)) = 32) (p1 := 38) (l1 := [(0, mR 1 0 0)]) (s1 := []) (M1 := M) (p2 := 25) (l2 := [(0, mR 1 0 0)]) (s2 := []) (M2 := M) rfl).trans ?_
    refine mi_itc ?_ ?_
    · exact mx_ret rfl rfl
    · refine (mx_steps 7 (pc' := 0) (ls' := [(0, mR 1 0 0)]) (st' := []) (M' := mi_set M 6 0 1 ((M.1 6 0 1) + 1)) rfl).trans ?_
      rfl

set_option maxRecDepth 20000 in
theorem fS_current_eq (M : mM) : fS_current M = (if (M.1 6 0 0) ≤ (M.1 6 0 1) then some ((-1), M) else (mi_ix (M.1 6 0 1) 120).bind fun k1 => some (M.1 4 0 (0 + k1), M)) := by
  refine (mx_steps 4 (pc' := 8) (ls' := [(0, mR 1 0 0)]) (st' := [mI (M.1 6 0 0), mI (M.1 6 0 1)]) (M' := M) rfl).trans ?_
  refine (mx_if (c := (M.1 6 0 0) ≤ (M.1 6 0 1)) (p1 := 23) (l1 := [(0, mR 1 0 0)]) (s1 := []) (M1 := M) (p2 := 11) (l2 := [(0, mR 1 0 0)]) (s2 := []) (M2 := M) rfl).trans ?_
  refine mi_itc ?_ ?_
  · refine (mx_steps 1 (pc' := 24) (ls' := [(0, mR 1 0 0)]) (st' := [mI ((-1))]) (M' := M) rfl).trans ?_
    exact mx_ret rfl rfl
  · refine (mx_steps 4 (pc' := 19) (ls' := [(0, mR 1 0 0)]) (st' := [mI (M.1 6 0 1), mR 22 0 0]) (M' := M) rfl).trans ?_
    refine (mx_ix (i := M.1 6 0 1) (n := 120) (pc' := 20) (ls' := [(0, mR 1 0 0)]) (sf := fun k1 => [mI (M.1 4 0 (0 + k1))]) (Mf := fun k1 => M) rfl).trans ?_
    refine mi_bdc fun k1 => ?_
    refine (mx_steps 1 (pc' := 24) (ls' := [(0, mR 1 0 0)]) (st' := [mI (M.1 4 0 (0 + k1))]) (M' := M) rfl).trans ?_
    exact mx_ret rfl rfl

set_option maxRecDepth 20000 in
theorem fS_isFigure_eq (a0 : Int32) (M : mM) : fS_isFigure a0 M = (if a0 < 48 then some (0, M) else (if 57 < a0 then some (0, M) else some (1, M))) := by
  refine (mx_steps 2 (pc' := 3) (ls' := [(0, mI a0)]) (st' := [mI 48, mI a0]) (M' := M) rfl).trans ?_
  refine (mx_if (c := a0 < 48) (p1 := 16) (l1 := [(0, mI a0)]) (s1 := []) (M1 := M) (p2 := 6) (l2 := [(0, mI a0)]) (s2 := []) (M2 := M) rfl).trans ?_
  refine mi_itc ?_ ?_
  · refine (mx_steps 1 (pc' := 17) (ls' := [(0, mI a0)]) (st' := [mI 0]) (M' := M) rfl).trans ?_
    exact mx_ret rfl rfl
  · refine (mx_steps 2 (pc' := 9) (ls' := [(0, mI a0)]) (st' := [mI 57, mI a0]) (M' := M) rfl).trans ?_
    refine (mx_if (c := 57 < a0) (p1 := 16) (l1 := [(0, mI a0)]) (s1 := []) (M1 := M) (p2 := 12) (l2 := [(0, mI a0)]) (s2 := []) (M2 := M) rfl).trans ?_
    refine mi_itc ?_ ?_
    · refine (mx_steps 1 (pc' := 17) (ls' := [(0, mI a0)]) (st' := [mI 0]) (M' := M) rfl).trans ?_
      exact mx_ret rfl rfl
    · refine (mx_steps 2 (pc' := 17) (ls' := [(0, mI a0)]) (st' := [mI 1]) (M' := M) rfl).trans ?_
      exact mx_ret rfl rfl

set_option maxRecDepth 20000 in
theorem fS_numbersOf_eq (a0 : Int32) (M : mM) : fS_numbersOf a0 M = (if a0 = 107 then some (1, M) else (if a0 = 108 then some (3, M) else (if a0 = 109 then some (0, M) else (if a0 = 110 then some (2, M) else (if a0 = 111 then some (3, M) else (if a0 = 112 then some (0, M) else (if a0 = 113 then some (0, M) else (if a0 = 114 then some (0, M) else (if a0 = 115 then some (2, M) else (if a0 = 116 then some (1, M) else (if a0 = 117 then some (1, M) else some (0, M)))))))))))) := by
  refine (mx_steps 1 (pc' := 1) (ls' := [(0, mI a0)]) (st' := [mI a0]) (M' := M) rfl).trans ?_
  refine (mx_table (x := a0) (lo := 107) (ts := [60, 64, 66, 62, 64, 66, 66, 66, 62, 60, 60]) (d := 66) rfl).trans ?_
  refine mi_swc (F := fun tg => mi_ex mi_pI 38 tg (mi_jmp 38 tg [(0, mI a0)]) [] M) (k := 107) rfl ?_ ?_
  · show mi_ex mi_pI 38 60 [(0, mI a0)] [] M = _
    refine (mx_steps 1 (pc' := 61) (ls' := [(0, mI a0)]) (st' := [mI 1]) (M' := M) rfl).trans ?_
    exact mx_ret rfl rfl
  refine mi_swc (F := fun tg => mi_ex mi_pI 38 tg (mi_jmp 38 tg [(0, mI a0)]) [] M) (k := 108) rfl ?_ ?_
  · show mi_ex mi_pI 38 64 [(0, mI a0)] [] M = _
    refine (mx_steps 1 (pc' := 65) (ls' := [(0, mI a0)]) (st' := [mI 3]) (M' := M) rfl).trans ?_
    exact mx_ret rfl rfl
  refine mi_swc (F := fun tg => mi_ex mi_pI 38 tg (mi_jmp 38 tg [(0, mI a0)]) [] M) (k := 109) rfl ?_ ?_
  · show mi_ex mi_pI 38 66 [(0, mI a0)] [] M = _
    refine (mx_steps 1 (pc' := 67) (ls' := [(0, mI a0)]) (st' := [mI 0]) (M' := M) rfl).trans ?_
    exact mx_ret rfl rfl
  refine mi_swc (F := fun tg => mi_ex mi_pI 38 tg (mi_jmp 38 tg [(0, mI a0)]) [] M) (k := 110) rfl ?_ ?_
  · show mi_ex mi_pI 38 62 [(0, mI a0)] [] M = _
    refine (mx_steps 1 (pc' := 63) (ls' := [(0, mI a0)]) (st' := [mI 2]) (M' := M) rfl).trans ?_
    exact mx_ret rfl rfl
  refine mi_swc (F := fun tg => mi_ex mi_pI 38 tg (mi_jmp 38 tg [(0, mI a0)]) [] M) (k := 111) rfl ?_ ?_
  · show mi_ex mi_pI 38 64 [(0, mI a0)] [] M = _
    refine (mx_steps 1 (pc' := 65) (ls' := [(0, mI a0)]) (st' := [mI 3]) (M' := M) rfl).trans ?_
    exact mx_ret rfl rfl
  refine mi_swc (F := fun tg => mi_ex mi_pI 38 tg (mi_jmp 38 tg [(0, mI a0)]) [] M) (k := 112) rfl ?_ ?_
  · show mi_ex mi_pI 38 66 [(0, mI a0)] [] M = _
    refine (mx_steps 1 (pc' := 67) (ls' := [(0, mI a0)]) (st' := [mI 0]) (M' := M) rfl).trans ?_
    exact mx_ret rfl rfl
  refine mi_swc (F := fun tg => mi_ex mi_pI 38 tg (mi_jmp 38 tg [(0, mI a0)]) [] M) (k := 113) rfl ?_ ?_
  · show mi_ex mi_pI 38 66 [(0, mI a0)] [] M = _
    refine (mx_steps 1 (pc' := 67) (ls' := [(0, mI a0)]) (st' := [mI 0]) (M' := M) rfl).trans ?_
    exact mx_ret rfl rfl
  refine mi_swc (F := fun tg => mi_ex mi_pI 38 tg (mi_jmp 38 tg [(0, mI a0)]) [] M) (k := 114) rfl ?_ ?_
  · show mi_ex mi_pI 38 66 [(0, mI a0)] [] M = _
    refine (mx_steps 1 (pc' := 67) (ls' := [(0, mI a0)]) (st' := [mI 0]) (M' := M) rfl).trans ?_
    exact mx_ret rfl rfl
  refine mi_swc (F := fun tg => mi_ex mi_pI 38 tg (mi_jmp 38 tg [(0, mI a0)]) [] M) (k := 115) rfl ?_ ?_
  · show mi_ex mi_pI 38 62 [(0, mI a0)] [] M = _
    refine (mx_steps 1 (pc' := 63) (ls' := [(0, mI a0)]) (st' := [mI 2]) (M' := M) rfl).trans ?_
    exact mx_ret rfl rfl
  refine mi_swc (F := fun tg => mi_ex mi_pI 38 tg (mi_jmp 38 tg [(0, mI a0)]) [] M) (k := 116) rfl ?_ ?_
  · show mi_ex mi_pI 38 60 [(0, mI a0)] [] M = _
    refine (mx_steps 1 (pc' := 61) (ls' := [(0, mI a0)]) (st' := [mI 1]) (M' := M) rfl).trans ?_
    exact mx_ret rfl rfl
  refine mi_swc (F := fun tg => mi_ex mi_pI 38 tg (mi_jmp 38 tg [(0, mI a0)]) [] M) (k := 117) rfl ?_ ?_
  · show mi_ex mi_pI 38 60 [(0, mI a0)] [] M = _
    refine (mx_steps 1 (pc' := 61) (ls' := [(0, mI a0)]) (st' := [mI 1]) (M' := M) rfl).trans ?_
    exact mx_ret rfl rfl
  show mi_ex mi_pI 38 66 [(0, mI a0)] [] M = _
  refine (mx_steps 1 (pc' := 67) (ls' := [(0, mI a0)]) (st' := [mI 0]) (M' := M) rfl).trans ?_
  exact mx_ret rfl rfl

