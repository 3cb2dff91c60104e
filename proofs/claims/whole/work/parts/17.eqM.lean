set_option maxRecDepth 20000 in
theorem fM_in_eq (a0 : Int32) (a1 : Int32) (a2 : Int32) (M : mM) : fM_in a0 a1 a2 M = (if a0 < a1 then some (0, M) else (if a2 < a0 then some (0, M) else some (1, M))) := by
  refine (mx_steps 2 (pc' := 2) (ls' := [(0, mI a0), (1, mI a1), (2, mI a2)]) (st' := [mI a1, mI a0]) (M' := M) rfl).trans ?_
  refine (mx_if (c := a0 < a1) (p1 := 14) (l1 := [(0, mI a0), (1, mI a1), (2, mI a2)]) (s1 := []) (M1 := M) (p2 := 5) (l2 := [(0, mI a0), (1, mI a1), (2, mI a2)]) (s2 := []) (M2 := M) rfl).trans ?_
  refine mi_itc ?_ ?_
  · refine (mx_steps 1 (pc' := 15) (ls' := [(0, mI a0), (1, mI a1), (2, mI a2)]) (st' := [mI 0]) (M' := M) rfl).trans ?_
    exact mx_ret rfl rfl
  · refine (mx_steps 2 (pc' := 7) (ls' := [(0, mI a0), (1, mI a1), (2, mI a2)]) (st' := [mI a2, mI a0]) (M' := M) rfl).trans ?_
    refine (mx_if (c := a2 < a0) (p1 := 14) (l1 := [(0, mI a0), (1, mI a1), (2, mI a2)]) (s1 := []) (M1 := M) (p2 := 10) (l2 := [(0, mI a0), (1, mI a1), (2, mI a2)]) (s2 := []) (M2 := M) rfl).trans ?_
    refine mi_itc ?_ ?_
    · refine (mx_steps 1 (pc' := 15) (ls' := [(0, mI a0), (1, mI a1), (2, mI a2)]) (st' := [mI 0]) (M' := M) rfl).trans ?_
      exact mx_ret rfl rfl
    · refine (mx_steps 2 (pc' := 15) (ls' := [(0, mI a0), (1, mI a1), (2, mI a2)]) (st' := [mI 1]) (M' := M) rfl).trans ?_
      exact mx_ret rfl rfl

set_option maxRecDepth 20000 in
theorem fM_refuses_eq (a1 : Int32) (M : mM) : fM_refuses a1 M = (mi_ix (((-1002)) - a1) 3).bind fun k1 => (mi_ix (((-1002)) - a1) 3).bind fun k2 => some (a1, mi_set M 33 0 (0 + k2) ((M.1 33 0 (0 + k1)) + 1)) := by
  refine (mx_steps 6 (pc' := 10) (ls' := [(0, mR 3 0 0), (1, mI a1)]) (st' := [mI (((-1002)) - a1), mR 33 0 0, mI (((-1002)) - a1), mR 33 0 0]) (M' := M) rfl).trans ?_
  generalize (((-1002)) - a1 : Int32) = z
  refine (mx_ix (i := z) (n := 3) (pc' := 11) (ls' := [(0, mR 3 0 0), (1, mI a1)]) (sf := fun k1 => [mI (M.1 33 0 (0 + k1)), mI z, mR 33 0 0]) (Mf := fun k1 => M) rfl).trans ?_
  refine mi_bdc fun k1 => ?_
  refine (mx_steps 2 (pc' := 13) (ls' := [(0, mR 3 0 0), (1, mI a1)]) (st' := [mI ((M.1 33 0 (0 + k1)) + 1), mI z, mR 33 0 0]) (M' := M) rfl).trans ?_
  refine (mx_ix (i := z) (n := 3) (pc' := 14) (ls' := [(0, mR 3 0 0), (1, mI a1)]) (sf := fun k2 => []) (Mf := fun k2 => mi_set M 33 0 (0 + k2) ((M.1 33 0 (0 + k1)) + 1)) rfl).trans ?_
  refine mi_bdc fun k2 => ?_
  refine (mx_steps 1 (pc' := 15) (ls' := [(0, mR 3 0 0), (1, mI a1)]) (st' := [mI a1]) (M' := mi_set M 33 0 (0 + k2) ((M.1 33 0 (0 + k1)) + 1)) rfl).trans ?_
  exact mx_ret rfl rfl

set_option maxRecDepth 20000 in
theorem fM_hold_eq (M : mM) : fM_hold M = fM_hold_L2 0 M := by
  refine (mx_steps 2 (pc' := 2) (ls' := [(0, mR 3 0 0), (1, mI 0)]) (st' := []) (M' := M) rfl).trans ?_
  rfl

set_option maxRecDepth 20000 in
theorem fM_hold_L2_eq (v1 : Int32) (M : mM) : fM_hold_L2 v1 M = (if 154 ≤ v1 then some M else (mi_ix v1 154).bind fun k1 => (mi_ix v1 154).bind fun k2 => fM_hold_L2 (v1 + 1) (mi_set M 31 0 (0 + k2) (M.1 30 0 (0 + k1)))) := by
  refine (mx_steps 2 (pc' := 6) (ls' := [(0, mR 3 0 0), (1, mI v1)]) (st' := [mI 154, mI v1]) (M' := M) rfl).trans ?_
  refine (mx_if (c := 154 ≤ v1) (p1 := 27) (l1 := [(0, mR 3 0 0), (1, mI v1)]) (s1 := []) (M1 := M) (p2 := 9) (l2 := [(0, mR 3 0 0), (1, mI v1)]) (s2 := []) (M2 := M) rfl).trans ?_
  refine mi_itc ?_ ?_
  · exact mx_ret rfl rfl
  · refine (mx_steps 6 (pc' := 19) (ls' := [(0, mR 3 0 0), (1, mI v1)]) (st' := [mI v1, mR 30 0 0, mI v1, mR 31 0 0]) (M' := M) rfl).trans ?_
    refine (mx_ix (i := v1) (n := 154) (pc' := 20) (ls' := [(0, mR 3 0 0), (1, mI v1)]) (sf := fun k1 => [mI (M.1 30 0 (0 + k1)), mI v1, mR 31 0 0]) (Mf := fun k1 => M) rfl).trans ?_
    refine mi_bdc fun k1 => ?_
    refine (mx_ix (i := v1) (n := 154) (pc' := 21) (ls' := [(0, mR 3 0 0), (1, mI v1)]) (sf := fun k2 => []) (Mf := fun k2 => mi_set M 31 0 (0 + k2) (M.1 30 0 (0 + k1))) rfl).trans ?_
    refine mi_bdc fun k2 => ?_
    refine (mx_steps 2 (pc' := 2) (ls' := [(0, mR 3 0 0), (1, mI (v1 + 1))]) (st' := []) (M' := mi_set M 31 0 (0 + k2) (M.1 30 0 (0 + k1))) rfl).trans ?_
    rfl

set_option maxRecDepth 20000 in
theorem fM_push_eq (M : mM) : fM_push M = (if ¬ (M.1 41 0 0) = 5 then fM_push_L51 0 M else fM_push_L10 0 M) := by
  refine (mx_steps 3 (pc' := 5) (ls' := [(0, mR 3 0 0)]) (st' := [mI 5, mI (M.1 41 0 0)]) (M' := M) rfl).trans ?_
  refine (mx_if (c := ¬ (M.1 41 0 0) = 5) (p1 := 49) (l1 := [(0, mR 3 0 0)]) (s1 := []) (M1 := M) (p2 := 8) (l2 := [(0, mR 3 0 0)]) (s2 := []) (M2 := M) rfl).trans ?_
  refine mi_itc ?_ ?_
  · refine (mx_steps 2 (pc' := 51) (ls' := [(0, mR 3 0 0), (1, mI 0)]) (st' := []) (M' := M) rfl).trans ?_
    rfl
  · refine (mx_steps 2 (pc' := 10) (ls' := [(0, mR 3 0 0), (1, mI 0)]) (st' := []) (M' := M) rfl).trans ?_
    rfl

set_option maxRecDepth 20000 in
theorem fM_push_L51_eq (v1 : Int32) (M : mM) : fM_push_L51 v1 M = (if 154 ≤ v1 then some (mi_set M 41 0 0 ((M.1 41 0 0) + 1)) else (mi_ix v1 154).bind fun k1 => (mi_ix ((154 * (M.1 41 0 0)) + v1) 770).bind fun k2 => fM_push_L51 (v1 + 1) (mi_set M 32 0 (0 + k2) (M.1 31 0 (0 + k1)))) := by
  refine (mx_steps 2 (pc' := 55) (ls' := [(0, mR 3 0 0), (1, mI v1)]) (st' := [mI 154, mI v1]) (M' := M) rfl).trans ?_
  refine (mx_if (c := 154 ≤ v1) (p1 := 85) (l1 := [(0, mR 3 0 0), (1, mI v1)]) (s1 := []) (M1 := M) (p2 := 58) (l2 := [(0, mR 3 0 0), (1, mI v1)]) (s2 := []) (M2 := M) rfl).trans ?_
  refine mi_itc ?_ ?_
  · refine (mx_steps 6 (pc' := 95) (ls' := [(0, mR 3 0 0), (1, mI v1)]) (st' := []) (M' := mi_set M 41 0 0 ((M.1 41 0 0) + 1)) rfl).trans ?_
    exact mx_ret rfl rfl
  · refine (mx_steps 11 (pc' := 77) (ls' := [(0, mR 3 0 0), (1, mI v1)]) (st' := [mI v1, mR 31 0 0, mI ((154 * (M.1 41 0 0)) + v1), mR 32 0 0]) (M' := M) rfl).trans ?_
    refine (mx_ix (i := v1) (n := 154) (pc' := 78) (ls' := [(0, mR 3 0 0), (1, mI v1)]) (sf := fun k1 => [mI (M.1 31 0 (0 + k1)), mI ((154 * (M.1 41 0 0)) + v1), mR 32 0 0]) (Mf := fun k1 => M) rfl).trans ?_
    refine mi_bdc fun k1 => ?_
    refine (mx_ix (i := (154 * (M.1 41 0 0)) + v1) (n := 770) (pc' := 79) (ls' := [(0, mR 3 0 0), (1, mI v1)]) (sf := fun k2 => []) (Mf := fun k2 => mi_set M 32 0 (0 + k2) (M.1 31 0 (0 + k1))) rfl).trans ?_
    refine mi_bdc fun k2 => ?_
    refine (mx_steps 2 (pc' := 51) (ls' := [(0, mR 3 0 0), (1, mI (v1 + 1))]) (st' := []) (M' := mi_set M 32 0 (0 + k2) (M.1 31 0 (0 + k1))) rfl).trans ?_
    rfl

set_option maxRecDepth 20000 in
theorem fM_push_L10_eq (v1 : Int32) (M : mM) : fM_push_L10 v1 M = (if 616 ≤ v1 then fM_push_L51 0 (mi_set M 41 0 0 ((M.1 41 0 0) - 1)) else (mi_ix (v1 + 154) 770).bind fun k1 => (mi_ix v1 770).bind fun k2 => fM_push_L10 (v1 + 1) (mi_set M 32 0 (0 + k2) (M.1 32 0 (0 + k1)))) := by
  refine (mx_steps 2 (pc' := 14) (ls' := [(0, mR 3 0 0), (1, mI v1)]) (st' := [mI 616, mI v1]) (M' := M) rfl).trans ?_
  refine (mx_if (c := 616 ≤ v1) (p1 := 39) (l1 := [(0, mR 3 0 0), (1, mI v1)]) (s1 := []) (M1 := M) (p2 := 17) (l2 := [(0, mR 3 0 0), (1, mI v1)]) (s2 := []) (M2 := M) rfl).trans ?_
  refine mi_itc ?_ ?_
  · refine (mx_steps 8 (pc' := 51) (ls' := [(0, mR 3 0 0), (1, mI 0)]) (st' := []) (M' := mi_set M 41 0 0 ((M.1 41 0 0) - 1)) rfl).trans ?_
    rfl
  · refine (mx_steps 8 (pc' := 31) (ls' := [(0, mR 3 0 0), (1, mI v1)]) (st' := [mI (v1 + 154), mR 32 0 0, mI v1, mR 32 0 0]) (M' := M) rfl).trans ?_
    refine (mx_ix (i := v1 + 154) (n := 770) (pc' := 32) (ls' := [(0, mR 3 0 0), (1, mI v1)]) (sf := fun k1 => [mI (M.1 32 0 (0 + k1)), mI v1, mR 32 0 0]) (Mf := fun k1 => M) rfl).trans ?_
    refine mi_bdc fun k1 => ?_
    refine (mx_ix (i := v1) (n := 770) (pc' := 33) (ls' := [(0, mR 3 0 0), (1, mI v1)]) (sf := fun k2 => []) (Mf := fun k2 => mi_set M 32 0 (0 + k2) (M.1 32 0 (0 + k1))) rfl).trans ?_
    refine mi_bdc fun k2 => ?_
    refine (mx_steps 2 (pc' := 10) (ls' := [(0, mR 3 0 0), (1, mI (v1 + 1))]) (st' := []) (M' := mi_set M 32 0 (0 + k2) (M.1 32 0 (0 + k1))) rfl).trans ?_
    rfl

set_option maxRecDepth 20000 in
theorem fM_ends_eq (a1 : Int32) (M : mM) : fM_ends a1 M = (if 0 ≤ a1 then (fM_push M).bind fun M1 => some (a1, M1) else (fM_refuses a1 M).bind fun q2 => some (q2.1, q2.2)) := by
  refine (mx_steps 1 (pc' := 1) (ls' := [(0, mR 3 0 0), (1, mI a1)]) (st' := [mI a1]) (M' := M) rfl).trans ?_
  refine (mx_if (c := 0 ≤ a1) (p1 := 10) (l1 := [(0, mR 3 0 0), (1, mI a1)]) (s1 := []) (M1 := M) (p2 := 4) (l2 := [(0, mR 3 0 0), (1, mI a1)]) (s2 := []) (M2 := M) rfl).trans ?_
  refine mi_itc ?_ ?_
  · refine (mx_steps 1 (pc' := 11) (ls' := [(0, mR 3 0 0), (1, mI a1)]) (st' := [mR 3 0 0]) (M' := M) rfl).trans ?_
    refine (mx_callV (z := 71) (as := [mR 3 0 0]) (pc' := 14) (ls' := [(0, mR 3 0 0), (1, mI a1)]) (r := []) rfl rfl).trans ?_
    refine mi_bdc fun M1 => ?_
    refine (mx_steps 1 (pc' := 15) (ls' := [(0, mR 3 0 0), (1, mI a1)]) (st' := [mI a1]) (M' := M1) rfl).trans ?_
    exact mx_ret rfl rfl
  · refine (mx_steps 2 (pc' := 6) (ls' := [(0, mR 3 0 0), (1, mI a1)]) (st' := [mI a1, mR 3 0 0]) (M' := M) rfl).trans ?_
    refine (mx_callI (z := 69) (as := [mR 3 0 0, mI a1]) (pc' := 9) (ls' := [(0, mR 3 0 0), (1, mI a1)]) (r := []) rfl (Or.inl rfl)).trans ?_
    refine mi_bdc fun q2 => ?_
    exact mx_ret rfl rfl

set_option maxRecDepth 20000 in
theorem fM_back_eq (M : mM) : fM_back M = (if ¬ (M.1 41 0 0) = 0 then fM_back_L27 0 (mi_set M 41 0 0 ((M.1 41 0 0) - 1)) else (fM_refuses ((-1003)) M).bind fun q1 => some (q1.1, q1.2)) := by
  refine (mx_steps 2 (pc' := 4) (ls' := [(0, mR 3 0 0)]) (st' := [mI (M.1 41 0 0)]) (M' := M) rfl).trans ?_
  refine (mx_if (c := ¬ (M.1 41 0 0) = 0) (p1 := 15) (l1 := [(0, mR 3 0 0)]) (s1 := []) (M1 := M) (p2 := 7) (l2 := [(0, mR 3 0 0)]) (s2 := []) (M2 := M) rfl).trans ?_
  refine mi_itc ?_ ?_
  · refine (mx_steps 8 (pc' := 27) (ls' := [(0, mR 3 0 0), (1, mI 0)]) (st' := []) (M' := mi_set M 41 0 0 ((M.1 41 0 0) - 1)) rfl).trans ?_
    rfl
  · refine (mx_steps 2 (pc' := 11) (ls' := [(0, mR 3 0 0)]) (st' := [mI ((-1003)), mR 3 0 0]) (M' := M) rfl).trans ?_
    refine (mx_callI (z := 69) (as := [mR 3 0 0, mI ((-1003))]) (pc' := 14) (ls' := [(0, mR 3 0 0)]) (r := []) rfl (Or.inl rfl)).trans ?_
    refine mi_bdc fun q1 => ?_
    exact mx_ret rfl rfl

set_option maxRecDepth 20000 in
theorem fM_back_L27_eq (v1 : Int32) (M : mM) : fM_back_L27 v1 M = (if 154 ≤ v1 then some (M.1 41 0 0, M) else (mi_ix ((154 * (M.1 41 0 0)) + v1) 770).bind fun k1 => (mi_ix v1 154).bind fun k2 => fM_back_L27 (v1 + 1) (mi_set M 30 0 (0 + k2) (M.1 32 0 (0 + k1)))) := by
  refine (mx_steps 2 (pc' := 31) (ls' := [(0, mR 3 0 0), (1, mI v1)]) (st' := [mI 154, mI v1]) (M' := M) rfl).trans ?_
  refine (mx_if (c := 154 ≤ v1) (p1 := 61) (l1 := [(0, mR 3 0 0), (1, mI v1)]) (s1 := []) (M1 := M) (p2 := 34) (l2 := [(0, mR 3 0 0), (1, mI v1)]) (s2 := []) (M2 := M) rfl).trans ?_
  refine mi_itc ?_ ?_
  · refine (mx_steps 2 (pc' := 65) (ls' := [(0, mR 3 0 0), (1, mI v1)]) (st' := [mI (M.1 41 0 0)]) (M' := M) rfl).trans ?_
    exact mx_ret rfl rfl
  · refine (mx_steps 11 (pc' := 53) (ls' := [(0, mR 3 0 0), (1, mI v1)]) (st' := [mI ((154 * (M.1 41 0 0)) + v1), mR 32 0 0, mI v1, mR 30 0 0]) (M' := M) rfl).trans ?_
    refine (mx_ix (i := (154 * (M.1 41 0 0)) + v1) (n := 770) (pc' := 54) (ls' := [(0, mR 3 0 0), (1, mI v1)]) (sf := fun k1 => [mI (M.1 32 0 (0 + k1)), mI v1, mR 30 0 0]) (Mf := fun k1 => M) rfl).trans ?_
    refine mi_bdc fun k1 => ?_
    refine (mx_ix (i := v1) (n := 154) (pc' := 55) (ls' := [(0, mR 3 0 0), (1, mI v1)]) (sf := fun k2 => []) (Mf := fun k2 => mi_set M 30 0 (0 + k2) (M.1 32 0 (0 + k1))) rfl).trans ?_
    refine mi_bdc fun k2 => ?_
    refine (mx_steps 2 (pc' := 27) (ls' := [(0, mR 3 0 0), (1, mI (v1 + 1))]) (st' := []) (M' := mi_set M 30 0 (0 + k2) (M.1 32 0 (0 + k1))) rfl).trans ?_
    rfl

set_option maxRecDepth 20000 in
theorem fM_isNode_eq (a1 : Int32) (M : mM) : fM_isNode a1 M = (mi_ix 4 154).bind fun k1 => (fM_in a1 0 ((M.1 30 0 (0 + k1)) - 1) M).bind fun q2 => (if q2.1 = 0 ∨ q2.1 = 1 then some (q2.1, q2.2) else none) := by
  refine (mx_steps 5 (pc' := 7) (ls' := [(0, mR 3 0 0), (1, mI a1)]) (st' := [mI 4, mR 30 0 0, mI 0, mI a1]) (M' := M) rfl).trans ?_
  refine (mx_ix (i := 4) (n := 154) (pc' := 8) (ls' := [(0, mR 3 0 0), (1, mI a1)]) (sf := fun k1 => [mI (M.1 30 0 (0 + k1)), mI 0, mI a1]) (Mf := fun k1 => M) rfl).trans ?_
  refine mi_bdc fun k1 => ?_
  refine (mx_steps 2 (pc' := 10) (ls' := [(0, mR 3 0 0), (1, mI a1)]) (st' := [mI ((M.1 30 0 (0 + k1)) - 1), mI 0, mI a1]) (M' := M) rfl).trans ?_
  refine (mx_callI (z := 68) (as := [mI a1, mI 0, mI ((M.1 30 0 (0 + k1)) - 1)]) (pc' := 13) (ls' := [(0, mR 3 0 0), (1, mI a1)]) (r := []) rfl (Or.inr rfl)).trans ?_
  refine mi_bdc fun q2 => ?_
  exact mx_retb rfl rfl

set_option maxRecDepth 20000 in
theorem fM_isLink_eq (a1 : Int32) (M : mM) : fM_isLink a1 M = (mi_ix 5 154).bind fun k1 => (fM_in a1 0 ((M.1 30 0 (0 + k1)) - 1) M).bind fun q2 => (if q2.1 = 0 ∨ q2.1 = 1 then some (q2.1, q2.2) else none) := by
  refine (mx_steps 5 (pc' := 7) (ls' := [(0, mR 3 0 0), (1, mI a1)]) (st' := [mI 5, mR 30 0 0, mI 0, mI a1]) (M' := M) rfl).trans ?_
  refine (mx_ix (i := 5) (n := 154) (pc' := 8) (ls' := [(0, mR 3 0 0), (1, mI a1)]) (sf := fun k1 => [mI (M.1 30 0 (0 + k1)), mI 0, mI a1]) (Mf := fun k1 => M) rfl).trans ?_
  refine mi_bdc fun k1 => ?_
  refine (mx_steps 2 (pc' := 10) (ls' := [(0, mR 3 0 0), (1, mI a1)]) (st' := [mI ((M.1 30 0 (0 + k1)) - 1), mI 0, mI a1]) (M' := M) rfl).trans ?_
  refine (mx_callI (z := 68) (as := [mI a1, mI 0, mI ((M.1 30 0 (0 + k1)) - 1)]) (pc' := 13) (ls' := [(0, mR 3 0 0), (1, mI a1)]) (r := []) rfl (Or.inr rfl)).trans ?_
  refine mi_bdc fun q2 => ?_
  exact mx_retb rfl rfl

set_option maxRecDepth 20000 in
theorem fM_nodeAt_eq (a1 : Int32) (a2 : Int32) (M : mM) : fM_nodeAt a1 a2 M = (mi_ix ((6 + (8 * a1)) + a2) 154).bind fun k1 => some (M.1 30 0 (0 + k1), M) := by
  refine (mx_steps 9 (pc' := 13) (ls' := [(0, mR 3 0 0), (1, mI a1), (2, mI a2)]) (st' := [mI ((6 + (8 * a1)) + a2), mR 30 0 0]) (M' := M) rfl).trans ?_
  refine (mx_ix (i := (6 + (8 * a1)) + a2) (n := 154) (pc' := 14) (ls' := [(0, mR 3 0 0), (1, mI a1), (2, mI a2)]) (sf := fun k1 => [mI (M.1 30 0 (0 + k1))]) (Mf := fun k1 => M) rfl).trans ?_
  refine mi_bdc fun k1 => ?_
  exact mx_ret rfl rfl

set_option maxRecDepth 20000 in
theorem fM_putNode_eq (a1 : Int32) (a2 : Int32) (a3 : Int32) (M : mM) : fM_putNode a1 a2 a3 M = (mi_ix ((6 + (8 * a1)) + a2) 154).bind fun k1 => some (mi_set M 30 0 (0 + k1) a3) := by
  refine (mx_steps 10 (pc' := 14) (ls' := [(0, mR 3 0 0), (1, mI a1), (2, mI a2), (3, mI a3)]) (st' := [mI a3, mI ((6 + (8 * a1)) + a2), mR 30 0 0]) (M' := M) rfl).trans ?_
  refine (mx_ix (i := (6 + (8 * a1)) + a2) (n := 154) (pc' := 15) (ls' := [(0, mR 3 0 0), (1, mI a1), (2, mI a2), (3, mI a3)]) (sf := fun k1 => []) (Mf := fun k1 => mi_set M 30 0 (0 + k1) a3) rfl).trans ?_
  refine mi_bdc fun k1 => ?_
  exact mx_ret rfl rfl

set_option maxRecDepth 20000 in
theorem fM_linkAt_eq (a1 : Int32) (a2 : Int32) (M : mM) : fM_linkAt a1 a2 M = (mi_ix ((54 + (10 * a1)) + a2) 154).bind fun k1 => some (M.1 30 0 (0 + k1), M) := by
  refine (mx_steps 9 (pc' := 13) (ls' := [(0, mR 3 0 0), (1, mI a1), (2, mI a2)]) (st' := [mI ((54 + (10 * a1)) + a2), mR 30 0 0]) (M' := M) rfl).trans ?_
  refine (mx_ix (i := (54 + (10 * a1)) + a2) (n := 154) (pc' := 14) (ls' := [(0, mR 3 0 0), (1, mI a1), (2, mI a2)]) (sf := fun k1 => [mI (M.1 30 0 (0 + k1))]) (Mf := fun k1 => M) rfl).trans ?_
  refine mi_bdc fun k1 => ?_
  exact mx_ret rfl rfl

set_option maxRecDepth 20000 in
theorem fM_putLink_eq (a1 : Int32) (a2 : Int32) (a3 : Int32) (M : mM) : fM_putLink a1 a2 a3 M = (mi_ix ((54 + (10 * a1)) + a2) 154).bind fun k1 => some (mi_set M 30 0 (0 + k1) a3) := by
  refine (mx_steps 10 (pc' := 14) (ls' := [(0, mR 3 0 0), (1, mI a1), (2, mI a2), (3, mI a3)]) (st' := [mI a3, mI ((54 + (10 * a1)) + a2), mR 30 0 0]) (M' := M) rfl).trans ?_
  refine (mx_ix (i := (54 + (10 * a1)) + a2) (n := 154) (pc' := 15) (ls' := [(0, mR 3 0 0), (1, mI a1), (2, mI a2), (3, mI a3)]) (sf := fun k1 => []) (Mf := fun k1 => mi_set M 30 0 (0 + k1) a3) rfl).trans ?_
  refine mi_bdc fun k1 => ?_
  exact mx_ret rfl rfl

set_option maxRecDepth 20000 in
theorem fM_sourceOf_eq (a1 : Int32) (M : mM) : fM_sourceOf a1 M = (fM_nodeAt a1 3 M).bind fun q1 => (if ¬ q1.1 = ((-1001)) then (if 0 ≤ q1.1 then (fM_linkAt q1.1 0 q1.2).bind fun q2 => some (q2.1, q2.2) else (fM_linkAt 0 0 q1.2).bind fun q3 => some (q3.1, q3.2)) else some ((-1001), q1.2)) := by
  refine (mx_steps 3 (pc' := 3) (ls' := [(0, mR 3 0 0), (1, mI a1)]) (st' := [mI 3, mI a1, mR 3 0 0]) (M' := M) rfl).trans ?_
  refine (mx_callI (z := 76) (as := [mR 3 0 0, mI a1, mI 3]) (pc' := 6) (ls' := [(0, mR 3 0 0), (1, mI a1)]) (r := []) rfl (Or.inl rfl)).trans ?_
  refine mi_bdc fun q1 => ?_
  refine (mx_steps 3 (pc' := 11) (ls' := [(0, mR 3 0 0), (1, mI a1), (2, mI q1.1)]) (st' := [mI ((-1001)), mI q1.1]) (M' := q1.2) rfl).trans ?_
  refine (mx_if (c := ¬ q1.1 = ((-1001))) (p1 := 20) (l1 := [(0, mR 3 0 0), (1, mI a1), (2, mI q1.1)]) (s1 := []) (M1 := q1.2) (p2 := 14) (l2 := [(0, mR 3 0 0), (1, mI a1), (2, mI q1.1)]) (s2 := []) (M2 := q1.2) rfl).trans ?_
  refine mi_itc ?_ ?_
  · refine (mx_steps 2 (pc' := 22) (ls' := [(0, mR 3 0 0), (1, mI a1), (2, mI q1.1)]) (st' := [mI q1.1, mR 3 0 0]) (M' := q1.2) rfl).trans ?_
    refine (mx_if (c := 0 ≤ q1.1) (p1 := 29) (l1 := [(0, mR 3 0 0), (1, mI a1), (2, mI q1.1)]) (s1 := [mR 3 0 0]) (M1 := q1.2) (p2 := 25) (l2 := [(0, mR 3 0 0), (1, mI a1), (2, mI q1.1)]) (s2 := [mR 3 0 0]) (M2 := q1.2) rfl).trans ?_
    refine mi_itc ?_ ?_
    · refine (mx_steps 2 (pc' := 31) (ls' := [(0, mR 3 0 0), (1, mI a1), (2, mI q1.1)]) (st' := [mI 0, mI q1.1, mR 3 0 0]) (M' := q1.2) rfl).trans ?_
      refine (mx_callI (z := 78) (as := [mR 3 0 0, mI q1.1, mI 0]) (pc' := 34) (ls' := [(0, mR 3 0 0), (1, mI a1), (2, mI q1.1)]) (r := []) rfl (Or.inl rfl)).trans ?_
      refine mi_bdc fun q2 => ?_
      exact mx_ret rfl rfl
    · refine (mx_steps 3 (pc' := 31) (ls' := [(0, mR 3 0 0), (1, mI a1), (2, mI q1.1)]) (st' := [mI 0, mI 0, mR 3 0 0]) (M' := q1.2) rfl).trans ?_
      refine (mx_callI (z := 78) (as := [mR 3 0 0, mI 0, mI 0]) (pc' := 34) (ls' := [(0, mR 3 0 0), (1, mI a1), (2, mI q1.1)]) (r := []) rfl (Or.inl rfl)).trans ?_
      refine mi_bdc fun q3 => ?_
      exact mx_ret rfl rfl
  · refine (mx_steps 2 (pc' := 34) (ls' := [(0, mR 3 0 0), (1, mI a1), (2, mI q1.1)]) (st' := [mI ((-1001))]) (M' := q1.2) rfl).trans ?_
    exact mx_ret rfl rfl

set_option maxRecDepth 20000 in
theorem fM_begin_eq (a1 : Int32) (M : mM) : fM_begin a1 M = (fM_nodeAt a1 4 M).bind fun q1 => (fM_putNode a1 0 q1.1 q1.2).bind fun M2 => (fM_putNode a1 1 0 M2).bind fun M3 => (fM_nodeAt a1 5 M3).bind fun q4 => (fM_putNode a1 2 q4.1 q4.2).bind fun M5 => (fM_putNode a1 3 ((-1001)) M5).bind fun M6 => some M6 := by
  refine (mx_steps 6 (pc' := 6) (ls' := [(0, mR 3 0 0), (1, mI a1)]) (st' := [mI 4, mI a1, mR 3 0 0, mI 0, mI a1, mR 3 0 0]) (M' := M) rfl).trans ?_
  refine (mx_callI (z := 76) (as := [mR 3 0 0, mI a1, mI 4]) (pc' := 9) (ls' := [(0, mR 3 0 0), (1, mI a1)]) (r := [mI 0, mI a1, mR 3 0 0]) rfl (Or.inl rfl)).trans ?_
  refine mi_bdc fun q1 => ?_
  refine (mx_callV (z := 77) (as := [mR 3 0 0, mI a1, mI 0, mI q1.1]) (pc' := 12) (ls' := [(0, mR 3 0 0), (1, mI a1)]) (r := []) rfl rfl).trans ?_
  refine mi_bdc fun M2 => ?_
  refine (mx_steps 4 (pc' := 16) (ls' := [(0, mR 3 0 0), (1, mI a1)]) (st' := [mI 0, mI 1, mI a1, mR 3 0 0]) (M' := M2) rfl).trans ?_
  refine (mx_callV (z := 77) (as := [mR 3 0 0, mI a1, mI 1, mI 0]) (pc' := 19) (ls' := [(0, mR 3 0 0), (1, mI a1)]) (r := []) rfl rfl).trans ?_
  refine mi_bdc fun M3 => ?_
  refine (mx_steps 6 (pc' := 25) (ls' := [(0, mR 3 0 0), (1, mI a1)]) (st' := [mI 5, mI a1, mR 3 0 0, mI 2, mI a1, mR 3 0 0]) (M' := M3) rfl).trans ?_
  refine (mx_callI (z := 76) (as := [mR 3 0 0, mI a1, mI 5]) (pc' := 28) (ls' := [(0, mR 3 0 0), (1, mI a1)]) (r := [mI 2, mI a1, mR 3 0 0]) rfl (Or.inl rfl)).trans ?_
  refine mi_bdc fun q4 => ?_
  refine (mx_callV (z := 77) (as := [mR 3 0 0, mI a1, mI 2, mI q4.1]) (pc' := 31) (ls' := [(0, mR 3 0 0), (1, mI a1)]) (r := []) rfl rfl).trans ?_
  refine mi_bdc fun M5 => ?_
  refine (mx_steps 4 (pc' := 37) (ls' := [(0, mR 3 0 0), (1, mI a1)]) (st' := [mI ((-1001)), mI 3, mI a1, mR 3 0 0]) (M' := M5) rfl).trans ?_
  refine (mx_callV (z := 77) (as := [mR 3 0 0, mI a1, mI 3, mI ((-1001))]) (pc' := 40) (ls' := [(0, mR 3 0 0), (1, mI a1)]) (r := []) rfl rfl).trans ?_
  refine mi_bdc fun M6 => ?_
  exact mx_ret rfl rfl

set_option maxRecDepth 20000 in
theorem fM_isOwn_eq (a0 : Int32) (a1 : Int32) (M : mM) : fM_isOwn a0 a1 M = (fM_in a0 0 9 M).bind fun q1 => (if q1.1 = 0 then some (0, q1.2) else (fM_in a1 ((-99)) 99 q1.2).bind fun q2 => (if q2.1 = 0 then some (0, q2.2) else some (1, q2.2))) := by
  refine (mx_steps 3 (pc' := 4) (ls' := [(0, mI a0), (1, mI a1)]) (st' := [mI 9, mI 0, mI a0]) (M' := M) rfl).trans ?_
  refine (mx_callI (z := 68) (as := [mI a0, mI 0, mI 9]) (pc' := 7) (ls' := [(0, mI a0), (1, mI a1)]) (r := []) rfl (Or.inr rfl)).trans ?_
  refine mi_bdc fun q1 => ?_
  refine (mx_if (c := q1.1 = 0) (p1 := 25) (l1 := [(0, mI a0), (1, mI a1)]) (s1 := []) (M1 := q1.2) (p2 := 10) (l2 := [(0, mI a0), (1, mI a1)]) (s2 := []) (M2 := q1.2) rfl).trans ?_
  refine mi_itc ?_ ?_
  · refine (mx_steps 1 (pc' := 26) (ls' := [(0, mI a0), (1, mI a1)]) (st' := [mI 0]) (M' := q1.2) rfl).trans ?_
    exact mx_ret rfl rfl
  · refine (mx_steps 3 (pc' := 15) (ls' := [(0, mI a0), (1, mI a1)]) (st' := [mI 99, mI ((-99)), mI a1]) (M' := q1.2) rfl).trans ?_
    refine (mx_callI (z := 68) (as := [mI a1, mI ((-99)), mI 99]) (pc' := 18) (ls' := [(0, mI a0), (1, mI a1)]) (r := []) rfl (Or.inr rfl)).trans ?_
    refine mi_bdc fun q2 => ?_
    refine (mx_if (c := q2.1 = 0) (p1 := 25) (l1 := [(0, mI a0), (1, mI a1)]) (s1 := []) (M1 := q2.2) (p2 := 21) (l2 := [(0, mI a0), (1, mI a1)]) (s2 := []) (M2 := q2.2) rfl).trans ?_
    refine mi_itc ?_ ?_
    · refine (mx_steps 1 (pc' := 26) (ls' := [(0, mI a0), (1, mI a1)]) (st' := [mI 0]) (M' := q2.2) rfl).trans ?_
      exact mx_ret rfl rfl
    · refine (mx_steps 2 (pc' := 26) (ls' := [(0, mI a0), (1, mI a1)]) (st' := [mI 1]) (M' := q2.2) rfl).trans ?_
      exact mx_ret rfl rfl

set_option maxRecDepth 20000 in
theorem fM_own_eq (a1 : Int32) (a2 : Int32) (a3 : Int32) (M : mM) : fM_own a1 a2 a3 M = (fM_putNode a1 4 a2 M).bind fun M1 => (fM_putNode a1 5 a3 M1).bind fun M2 => (fM_putNode a1 6 0 M2).bind fun M3 => (fM_putNode a1 7 0 M3).bind fun M4 => (fM_begin a1 M4).bind fun M5 => some M5 := by
  refine (mx_steps 4 (pc' := 4) (ls' := [(0, mR 3 0 0), (1, mI a1), (2, mI a2), (3, mI a3)]) (st' := [mI a2, mI 4, mI a1, mR 3 0 0]) (M' := M) rfl).trans ?_
  refine (mx_callV (z := 77) (as := [mR 3 0 0, mI a1, mI 4, mI a2]) (pc' := 7) (ls' := [(0, mR 3 0 0), (1, mI a1), (2, mI a2), (3, mI a3)]) (r := []) rfl rfl).trans ?_
  refine mi_bdc fun M1 => ?_
  refine (mx_steps 4 (pc' := 11) (ls' := [(0, mR 3 0 0), (1, mI a1), (2, mI a2), (3, mI a3)]) (st' := [mI a3, mI 5, mI a1, mR 3 0 0]) (M' := M1) rfl).trans ?_
  refine (mx_callV (z := 77) (as := [mR 3 0 0, mI a1, mI 5, mI a3]) (pc' := 14) (ls' := [(0, mR 3 0 0), (1, mI a1), (2, mI a2), (3, mI a3)]) (r := []) rfl rfl).trans ?_
  refine mi_bdc fun M2 => ?_
  refine (mx_steps 4 (pc' := 19) (ls' := [(0, mR 3 0 0), (1, mI a1), (2, mI a2), (3, mI a3)]) (st' := [mI 0, mI 6, mI a1, mR 3 0 0]) (M' := M2) rfl).trans ?_
  refine (mx_callV (z := 77) (as := [mR 3 0 0, mI a1, mI 6, mI 0]) (pc' := 22) (ls' := [(0, mR 3 0 0), (1, mI a1), (2, mI a2), (3, mI a3)]) (r := []) rfl rfl).trans ?_
  refine mi_bdc fun M3 => ?_
  refine (mx_steps 4 (pc' := 27) (ls' := [(0, mR 3 0 0), (1, mI a1), (2, mI a2), (3, mI a3)]) (st' := [mI 0, mI 7, mI a1, mR 3 0 0]) (M' := M3) rfl).trans ?_
  refine (mx_callV (z := 77) (as := [mR 3 0 0, mI a1, mI 7, mI 0]) (pc' := 30) (ls' := [(0, mR 3 0 0), (1, mI a1), (2, mI a2), (3, mI a3)]) (r := []) rfl rfl).trans ?_
  refine mi_bdc fun M4 => ?_
  refine (mx_steps 2 (pc' := 32) (ls' := [(0, mR 3 0 0), (1, mI a1), (2, mI a2), (3, mI a3)]) (st' := [mI a1, mR 3 0 0]) (M' := M4) rfl).trans ?_
  refine (mx_callV (z := 81) (as := [mR 3 0 0, mI a1]) (pc' := 35) (ls' := [(0, mR 3 0 0), (1, mI a1), (2, mI a2), (3, mI a3)]) (r := []) rfl rfl).trans ?_
  refine mi_bdc fun M5 => ?_
  exact mx_ret rfl rfl

set_option maxRecDepth 20000 in
theorem fM_doNode_eq (a1 : Int32) (a2 : Int32) (M : mM) : fM_doNode a1 a2 M = (fM_isOwn a1 a2 M).bind fun q1 => (if ¬ q1.1 = 0 then (mi_ix 4 154).bind fun k2 => (if ¬ (q1.2.1 30 0 (0 + k2)) = 6 then (mi_ix 4 154).bind fun k3 => (mi_ix 4 154).bind fun k4 => (mi_ix 4 154).bind fun k5 => (fM_own (((mi_set q1.2 30 0 (0 + k4) ((q1.2.1 30 0 (0 + k3)) + 1)).1 30 0 (0 + k5)) - 1) a1 a2 (mi_set q1.2 30 0 (0 + k4) ((q1.2.1 30 0 (0 + k3)) + 1))).bind fun M6 => (mi_ix 4 154).bind fun k7 => some ((M6.1 30 0 (0 + k7)) - 1, M6) else some ((-1004), q1.2)) else some ((-1002), q1.2)) := by
  refine (mx_steps 2 (pc' := 2) (ls' := [(0, mR 3 0 0), (1, mI a1), (2, mI a2)]) (st' := [mI a2, mI a1]) (M' := M) rfl).trans ?_
  refine (mx_callI (z := 82) (as := [mI a1, mI a2]) (pc' := 5) (ls' := [(0, mR 3 0 0), (1, mI a1), (2, mI a2)]) (r := []) rfl (Or.inr rfl)).trans ?_
  refine mi_bdc fun q1 => ?_
  refine (mx_if (c := ¬ q1.1 = 0) (p1 := 12) (l1 := [(0, mR 3 0 0), (1, mI a1), (2, mI a2)]) (s1 := []) (M1 := q1.2) (p2 := 8) (l2 := [(0, mR 3 0 0), (1, mI a1), (2, mI a2)]) (s2 := []) (M2 := q1.2) rfl).trans ?_
  refine mi_itc ?_ ?_
  · refine (mx_steps 3 (pc' := 17) (ls' := [(0, mR 3 0 0), (1, mI a1), (2, mI a2)]) (st' := [mI 4, mR 30 0 0]) (M' := q1.2) rfl).trans ?_
    refine (mx_ix (i := 4) (n := 154) (pc' := 18) (ls' := [(0, mR 3 0 0), (1, mI a1), (2, mI a2)]) (sf := fun k2 => [mI (q1.2.1 30 0 (0 + k2))]) (Mf := fun k2 => q1.2) rfl).trans ?_
    refine mi_bdc fun k2 => ?_
    refine (mx_steps 1 (pc' := 20) (ls' := [(0, mR 3 0 0), (1, mI a1), (2, mI a2)]) (st' := [mI 6, mI (q1.2.1 30 0 (0 + k2))]) (M' := q1.2) rfl).trans ?_
    refine (mx_if (c := ¬ (q1.2.1 30 0 (0 + k2)) = 6) (p1 := 27) (l1 := [(0, mR 3 0 0), (1, mI a1), (2, mI a2)]) (s1 := []) (M1 := q1.2) (p2 := 23) (l2 := [(0, mR 3 0 0), (1, mI a1), (2, mI a2)]) (s2 := []) (M2 := q1.2) rfl).trans ?_
    refine mi_itc ?_ ?_
    · refine (mx_steps 4 (pc' := 33) (ls' := [(0, mR 3 0 0), (1, mI a1), (2, mI a2)]) (st' := [mI 4, mR 30 0 0, mI 4, mR 30 0 0]) (M' := q1.2) rfl).trans ?_
      refine (mx_ix (i := 4) (n := 154) (pc' := 34) (ls' := [(0, mR 3 0 0), (1, mI a1), (2, mI a2)]) (sf := fun k3 => [mI (q1.2.1 30 0 (0 + k3)), mI 4, mR 30 0 0]) (Mf := fun k3 => q1.2) rfl).trans ?_
      refine mi_bdc fun k3 => ?_
      refine (mx_steps 2 (pc' := 36) (ls' := [(0, mR 3 0 0), (1, mI a1), (2, mI a2)]) (st' := [mI ((q1.2.1 30 0 (0 + k3)) + 1), mI 4, mR 30 0 0]) (M' := q1.2) rfl).trans ?_
      refine (mx_ix (i := 4) (n := 154) (pc' := 37) (ls' := [(0, mR 3 0 0), (1, mI a1), (2, mI a2)]) (sf := fun k4 => []) (Mf := fun k4 => mi_set q1.2 30 0 (0 + k4) ((q1.2.1 30 0 (0 + k3)) + 1)) rfl).trans ?_
      refine mi_bdc fun k4 => ?_
      refine (mx_steps 4 (pc' := 43) (ls' := [(0, mR 3 0 0), (1, mI a1), (2, mI a2)]) (st' := [mI 4, mR 30 0 0, mR 3 0 0]) (M' := mi_set q1.2 30 0 (0 + k4) ((q1.2.1 30 0 (0 + k3)) + 1)) rfl).trans ?_
      refine (mx_ix (i := 4) (n := 154) (pc' := 44) (ls' := [(0, mR 3 0 0), (1, mI a1), (2, mI a2)]) (sf := fun k5 => [mI ((mi_set q1.2 30 0 (0 + k4) ((q1.2.1 30 0 (0 + k3)) + 1)).1 30 0 (0 + k5)), mR 3 0 0]) (Mf := fun k5 => mi_set q1.2 30 0 (0 + k4) ((q1.2.1 30 0 (0 + k3)) + 1)) rfl).trans ?_
      refine mi_bdc fun k5 => ?_
      refine (mx_steps 4 (pc' := 48) (ls' := [(0, mR 3 0 0), (1, mI a1), (2, mI a2)]) (st' := [mI a2, mI a1, mI (((mi_set q1.2 30 0 (0 + k4) ((q1.2.1 30 0 (0 + k3)) + 1)).1 30 0 (0 + k5)) - 1), mR 3 0 0]) (M' := mi_set q1.2 30 0 (0 + k4) ((q1.2.1 30 0 (0 + k3)) + 1)) rfl).trans ?_
      refine (mx_callV (z := 83) (as := [mR 3 0 0, mI (((mi_set q1.2 30 0 (0 + k4) ((q1.2.1 30 0 (0 + k3)) + 1)).1 30 0 (0 + k5)) - 1), mI a1, mI a2]) (pc' := 51) (ls' := [(0, mR 3 0 0), (1, mI a1), (2, mI a2)]) (r := []) rfl rfl).trans ?_
      refine mi_bdc fun M6 => ?_
      refine (mx_steps 3 (pc' := 56) (ls' := [(0, mR 3 0 0), (1, mI a1), (2, mI a2)]) (st' := [mI 4, mR 30 0 0]) (M' := M6) rfl).trans ?_
      refine (mx_ix (i := 4) (n := 154) (pc' := 57) (ls' := [(0, mR 3 0 0), (1, mI a1), (2, mI a2)]) (sf := fun k7 => [mI (M6.1 30 0 (0 + k7))]) (Mf := fun k7 => M6) rfl).trans ?_
      refine mi_bdc fun k7 => ?_
      refine (mx_steps 2 (pc' := 59) (ls' := [(0, mR 3 0 0), (1, mI a1), (2, mI a2)]) (st' := [mI ((M6.1 30 0 (0 + k7)) - 1)]) (M' := M6) rfl).trans ?_
      exact mx_ret rfl rfl
    · refine (mx_steps 1 (pc' := 26) (ls' := [(0, mR 3 0 0), (1, mI a1), (2, mI a2)]) (st' := [mI ((-1004))]) (M' := q1.2) rfl).trans ?_
      exact mx_ret rfl rfl
  · refine (mx_steps 1 (pc' := 11) (ls' := [(0, mR 3 0 0), (1, mI a1), (2, mI a2)]) (st' := [mI ((-1002))]) (M' := q1.2) rfl).trans ?_
    exact mx_ret rfl rfl

set_option maxRecDepth 20000 in
theorem fM_fill_eq (a1 : Int32) (M : mM) : fM_fill a1 M = (mi_ix 0 154).bind fun k1 => (fM_putLink a1 4 (M.1 30 0 (0 + k1)) M).bind fun M2 => (fM_reset a1 M2).bind fun M3 => some M3 := by
  refine (mx_steps 6 (pc' := 8) (ls' := [(0, mR 3 0 0), (1, mI a1)]) (st' := [mI 0, mR 30 0 0, mI 4, mI a1, mR 3 0 0]) (M' := M) rfl).trans ?_
  refine (mx_ix (i := 0) (n := 154) (pc' := 9) (ls' := [(0, mR 3 0 0), (1, mI a1)]) (sf := fun k1 => [mI (M.1 30 0 (0 + k1)), mI 4, mI a1, mR 3 0 0]) (Mf := fun k1 => M) rfl).trans ?_
  refine mi_bdc fun k1 => ?_
  refine (mx_callV (z := 79) (as := [mR 3 0 0, mI a1, mI 4, mI (M.1 30 0 (0 + k1))]) (pc' := 12) (ls' := [(0, mR 3 0 0), (1, mI a1)]) (r := []) rfl rfl).trans ?_
  refine mi_bdc fun M2 => ?_
  refine (mx_steps 2 (pc' := 14) (ls' := [(0, mR 3 0 0), (1, mI a1)]) (st' := [mI a1, mR 3 0 0]) (M' := M2) rfl).trans ?_
  refine (mx_callV (z := 86) (as := [mR 3 0 0, mI a1]) (pc' := 17) (ls' := [(0, mR 3 0 0), (1, mI a1)]) (r := []) rfl rfl).trans ?_
  refine mi_bdc fun M3 => ?_
  exact mx_ret rfl rfl

set_option maxRecDepth 20000 in
theorem fM_reset_eq (a1 : Int32) (M : mM) : fM_reset a1 M = (fM_linkAt a1 4 M).bind fun q1 => (fM_putLink a1 7 q1.1 q1.2).bind fun M2 => (fM_linkAt a1 4 M2).bind fun q3 => (fM_putLink a1 8 q3.1 q3.2).bind fun M4 => (fM_putLink a1 5 0 M4).bind fun M5 => (fM_putLink a1 6 0 M5).bind fun M6 => (fM_putLink a1 9 0 M6).bind fun M7 => some M7 := by
  refine (mx_steps 6 (pc' := 7) (ls' := [(0, mR 3 0 0), (1, mI a1)]) (st' := [mI 4, mI a1, mR 3 0 0, mI 7, mI a1, mR 3 0 0]) (M' := M) rfl).trans ?_
  refine (mx_callI (z := 78) (as := [mR 3 0 0, mI a1, mI 4]) (pc' := 10) (ls' := [(0, mR 3 0 0), (1, mI a1)]) (r := [mI 7, mI a1, mR 3 0 0]) rfl (Or.inl rfl)).trans ?_
  refine mi_bdc fun q1 => ?_
  refine (mx_callV (z := 79) (as := [mR 3 0 0, mI a1, mI 7, mI q1.1]) (pc' := 13) (ls' := [(0, mR 3 0 0), (1, mI a1)]) (r := []) rfl rfl).trans ?_
  refine mi_bdc fun M2 => ?_
  refine (mx_steps 6 (pc' := 20) (ls' := [(0, mR 3 0 0), (1, mI a1)]) (st' := [mI 4, mI a1, mR 3 0 0, mI 8, mI a1, mR 3 0 0]) (M' := M2) rfl).trans ?_
  refine (mx_callI (z := 78) (as := [mR 3 0 0, mI a1, mI 4]) (pc' := 23) (ls' := [(0, mR 3 0 0), (1, mI a1)]) (r := [mI 8, mI a1, mR 3 0 0]) rfl (Or.inl rfl)).trans ?_
  refine mi_bdc fun q3 => ?_
  refine (mx_callV (z := 79) (as := [mR 3 0 0, mI a1, mI 8, mI q3.1]) (pc' := 26) (ls' := [(0, mR 3 0 0), (1, mI a1)]) (r := []) rfl rfl).trans ?_
  refine mi_bdc fun M4 => ?_
  refine (mx_steps 4 (pc' := 30) (ls' := [(0, mR 3 0 0), (1, mI a1)]) (st' := [mI 0, mI 5, mI a1, mR 3 0 0]) (M' := M4) rfl).trans ?_
  refine (mx_callV (z := 79) (as := [mR 3 0 0, mI a1, mI 5, mI 0]) (pc' := 33) (ls' := [(0, mR 3 0 0), (1, mI a1)]) (r := []) rfl rfl).trans ?_
  refine mi_bdc fun M5 => ?_
  refine (mx_steps 4 (pc' := 38) (ls' := [(0, mR 3 0 0), (1, mI a1)]) (st' := [mI 0, mI 6, mI a1, mR 3 0 0]) (M' := M5) rfl).trans ?_
  refine (mx_callV (z := 79) (as := [mR 3 0 0, mI a1, mI 6, mI 0]) (pc' := 41) (ls' := [(0, mR 3 0 0), (1, mI a1)]) (r := []) rfl rfl).trans ?_
  refine mi_bdc fun M6 => ?_
  refine (mx_steps 4 (pc' := 46) (ls' := [(0, mR 3 0 0), (1, mI a1)]) (st' := [mI 0, mI 9, mI a1, mR 3 0 0]) (M' := M6) rfl).trans ?_
  refine (mx_callV (z := 79) (as := [mR 3 0 0, mI a1, mI 9, mI 0]) (pc' := 49) (ls' := [(0, mR 3 0 0), (1, mI a1)]) (r := []) rfl rfl).trans ?_
  refine mi_bdc fun M7 => ?_
  exact mx_ret rfl rfl

set_option maxRecDepth 20000 in
theorem fM_doLink_eq (a1 : Int32) (a2 : Int32) (a3 : Int32) (M : mM) : fM_doLink a1 a2 a3 M = (fM_isNode a1 M).bind fun q1 => (if q1.1 = 0 then some ((-1002), q1.2) else (fM_isNode a2 q1.2).bind fun q2 => (if q2.1 = 0 then some ((-1002), q2.2) else (if a1 = a2 then some ((-1002), q2.2) else (fM_in a3 0 9 q2.2).bind fun q3 => (if ¬ q3.1 = 0 then (mi_ix 5 154).bind fun k4 => (if ¬ (q3.2.1 30 0 (0 + k4)) = 10 then (mi_ix 5 154).bind fun k5 => (mi_ix 5 154).bind fun k6 => (mi_ix 5 154).bind fun k7 => (fM_putLink (q3.2.1 30 0 (0 + k5)) 0 a1 (mi_set q3.2 30 0 (0 + k7) ((q3.2.1 30 0 (0 + k6)) + 1))).bind fun M8 => (fM_putLink (q3.2.1 30 0 (0 + k5)) 1 a2 M8).bind fun M9 => (fM_putLink (q3.2.1 30 0 (0 + k5)) 2 a3 M9).bind fun M10 => (fM_putLink (q3.2.1 30 0 (0 + k5)) 3 1 M10).bind fun M11 => (fM_fill (q3.2.1 30 0 (0 + k5)) M11).bind fun M12 => some (q3.2.1 30 0 (0 + k5), M12) else some ((-1004), q3.2)) else some ((-1002), q3.2))))) := by
  refine (mx_steps 2 (pc' := 2) (ls' := [(0, mR 3 0 0), (1, mI a1), (2, mI a2), (3, mI a3)]) (st' := [mI a1, mR 3 0 0]) (M' := M) rfl).trans ?_
  refine (mx_callI (z := 74) (as := [mR 3 0 0, mI a1]) (pc' := 5) (ls' := [(0, mR 3 0 0), (1, mI a1), (2, mI a2), (3, mI a3)]) (r := []) rfl (Or.inr rfl)).trans ?_
  refine mi_bdc fun q1 => ?_
  refine (mx_if (c := q1.1 = 0) (p1 := 31) (l1 := [(0, mR 3 0 0), (1, mI a1), (2, mI a2), (3, mI a3)]) (s1 := []) (M1 := q1.2) (p2 := 8) (l2 := [(0, mR 3 0 0), (1, mI a1), (2, mI a2), (3, mI a3)]) (s2 := []) (M2 := q1.2) rfl).trans ?_
  refine mi_itc ?_ ?_
  · refine (mx_steps 1 (pc' := 34) (ls' := [(0, mR 3 0 0), (1, mI a1), (2, mI a2), (3, mI a3)]) (st' := [mI ((-1002))]) (M' := q1.2) rfl).trans ?_
    exact mx_ret rfl rfl
  · refine (mx_steps 2 (pc' := 10) (ls' := [(0, mR 3 0 0), (1, mI a1), (2, mI a2), (3, mI a3)]) (st' := [mI a2, mR 3 0 0]) (M' := q1.2) rfl).trans ?_
    refine (mx_callI (z := 74) (as := [mR 3 0 0, mI a2]) (pc' := 13) (ls' := [(0, mR 3 0 0), (1, mI a1), (2, mI a2), (3, mI a3)]) (r := []) rfl (Or.inr rfl)).trans ?_
    refine mi_bdc fun q2 => ?_
    refine (mx_if (c := q2.1 = 0) (p1 := 31) (l1 := [(0, mR 3 0 0), (1, mI a1), (2, mI a2), (3, mI a3)]) (s1 := []) (M1 := q2.2) (p2 := 16) (l2 := [(0, mR 3 0 0), (1, mI a1), (2, mI a2), (3, mI a3)]) (s2 := []) (M2 := q2.2) rfl).trans ?_
    refine mi_itc ?_ ?_
    · refine (mx_steps 1 (pc' := 34) (ls' := [(0, mR 3 0 0), (1, mI a1), (2, mI a2), (3, mI a3)]) (st' := [mI ((-1002))]) (M' := q2.2) rfl).trans ?_
      exact mx_ret rfl rfl
    · refine (mx_steps 2 (pc' := 18) (ls' := [(0, mR 3 0 0), (1, mI a1), (2, mI a2), (3, mI a3)]) (st' := [mI a2, mI a1]) (M' := q2.2) rfl).trans ?_
      refine (mx_if (c := a1 = a2) (p1 := 31) (l1 := [(0, mR 3 0 0), (1, mI a1), (2, mI a2), (3, mI a3)]) (s1 := []) (M1 := q2.2) (p2 := 21) (l2 := [(0, mR 3 0 0), (1, mI a1), (2, mI a2), (3, mI a3)]) (s2 := []) (M2 := q2.2) rfl).trans ?_
      refine mi_itc ?_ ?_
      · refine (mx_steps 1 (pc' := 34) (ls' := [(0, mR 3 0 0), (1, mI a1), (2, mI a2), (3, mI a3)]) (st' := [mI ((-1002))]) (M' := q2.2) rfl).trans ?_
        exact mx_ret rfl rfl
      · refine (mx_steps 3 (pc' := 25) (ls' := [(0, mR 3 0 0), (1, mI a1), (2, mI a2), (3, mI a3)]) (st' := [mI 9, mI 0, mI a3]) (M' := q2.2) rfl).trans ?_
        refine (mx_callI (z := 68) (as := [mI a3, mI 0, mI 9]) (pc' := 28) (ls' := [(0, mR 3 0 0), (1, mI a1), (2, mI a2), (3, mI a3)]) (r := []) rfl (Or.inr rfl)).trans ?_
        refine mi_bdc fun q3 => ?_
        refine (mx_if (c := ¬ q3.1 = 0) (p1 := 35) (l1 := [(0, mR 3 0 0), (1, mI a1), (2, mI a2), (3, mI a3)]) (s1 := []) (M1 := q3.2) (p2 := 31) (l2 := [(0, mR 3 0 0), (1, mI a1), (2, mI a2), (3, mI a3)]) (s2 := []) (M2 := q3.2) rfl).trans ?_
        refine mi_itc ?_ ?_
        · refine (mx_steps 3 (pc' := 40) (ls' := [(0, mR 3 0 0), (1, mI a1), (2, mI a2), (3, mI a3)]) (st' := [mI 5, mR 30 0 0]) (M' := q3.2) rfl).trans ?_
          refine (mx_ix (i := 5) (n := 154) (pc' := 41) (ls' := [(0, mR 3 0 0), (1, mI a1), (2, mI a2), (3, mI a3)]) (sf := fun k4 => [mI (q3.2.1 30 0 (0 + k4))]) (Mf := fun k4 => q3.2) rfl).trans ?_
          refine mi_bdc fun k4 => ?_
          refine (mx_steps 1 (pc' := 43) (ls' := [(0, mR 3 0 0), (1, mI a1), (2, mI a2), (3, mI a3)]) (st' := [mI 10, mI (q3.2.1 30 0 (0 + k4))]) (M' := q3.2) rfl).trans ?_
          refine (mx_if (c := ¬ (q3.2.1 30 0 (0 + k4)) = 10) (p1 := 50) (l1 := [(0, mR 3 0 0), (1, mI a1), (2, mI a2), (3, mI a3)]) (s1 := []) (M1 := q3.2) (p2 := 46) (l2 := [(0, mR 3 0 0), (1, mI a1), (2, mI a2), (3, mI a3)]) (s2 := []) (M2 := q3.2) rfl).trans ?_
          refine mi_itc ?_ ?_
          · refine (mx_steps 3 (pc' := 55) (ls' := [(0, mR 3 0 0), (1, mI a1), (2, mI a2), (3, mI a3)]) (st' := [mI 5, mR 30 0 0]) (M' := q3.2) rfl).trans ?_
            refine (mx_ix (i := 5) (n := 154) (pc' := 56) (ls' := [(0, mR 3 0 0), (1, mI a1), (2, mI a2), (3, mI a3)]) (sf := fun k5 => [mI (q3.2.1 30 0 (0 + k5))]) (Mf := fun k5 => q3.2) rfl).trans ?_
            refine mi_bdc fun k5 => ?_
            refine (mx_steps 5 (pc' := 64) (ls' := [(0, mR 3 0 0), (1, mI a1), (2, mI a2), (3, mI a3), (4, mI (q3.2.1 30 0 (0 + k5)))]) (st' := [mI 5, mR 30 0 0, mI 5, mR 30 0 0]) (M' := q3.2) rfl).trans ?_
            refine (mx_ix (i := 5) (n := 154) (pc' := 65) (ls' := [(0, mR 3 0 0), (1, mI a1), (2, mI a2), (3, mI a3), (4, mI (q3.2.1 30 0 (0 + k5)))]) (sf := fun k6 => [mI (q3.2.1 30 0 (0 + k6)), mI 5, mR 30 0 0]) (Mf := fun k6 => q3.2) rfl).trans ?_
            refine mi_bdc fun k6 => ?_
            refine (mx_steps 2 (pc' := 67) (ls' := [(0, mR 3 0 0), (1, mI a1), (2, mI a2), (3, mI a3), (4, mI (q3.2.1 30 0 (0 + k5)))]) (st' := [mI ((q3.2.1 30 0 (0 + k6)) + 1), mI 5, mR 30 0 0]) (M' := q3.2) rfl).trans ?_
            refine (mx_ix (i := 5) (n := 154) (pc' := 68) (ls' := [(0, mR 3 0 0), (1, mI a1), (2, mI a2), (3, mI a3), (4, mI (q3.2.1 30 0 (0 + k5)))]) (sf := fun k7 => []) (Mf := fun k7 => mi_set q3.2 30 0 (0 + k7) ((q3.2.1 30 0 (0 + k6)) + 1)) rfl).trans ?_
            refine mi_bdc fun k7 => ?_
            refine (mx_steps 4 (pc' := 73) (ls' := [(0, mR 3 0 0), (1, mI a1), (2, mI a2), (3, mI a3), (4, mI (q3.2.1 30 0 (0 + k5)))]) (st' := [mI a1, mI 0, mI (q3.2.1 30 0 (0 + k5)), mR 3 0 0]) (M' := mi_set q3.2 30 0 (0 + k7) ((q3.2.1 30 0 (0 + k6)) + 1)) rfl).trans ?_
            refine (mx_callV (z := 79) (as := [mR 3 0 0, mI (q3.2.1 30 0 (0 + k5)), mI 0, mI a1]) (pc' := 76) (ls' := [(0, mR 3 0 0), (1, mI a1), (2, mI a2), (3, mI a3), (4, mI (q3.2.1 30 0 (0 + k5)))]) (r := []) rfl rfl).trans ?_
            refine mi_bdc fun M8 => ?_
            refine (mx_steps 4 (pc' := 81) (ls' := [(0, mR 3 0 0), (1, mI a1), (2, mI a2), (3, mI a3), (4, mI (q3.2.1 30 0 (0 + k5)))]) (st' := [mI a2, mI 1, mI (q3.2.1 30 0 (0 + k5)), mR 3 0 0]) (M' := M8) rfl).trans ?_
            refine (mx_callV (z := 79) (as := [mR 3 0 0, mI (q3.2.1 30 0 (0 + k5)), mI 1, mI a2]) (pc' := 84) (ls' := [(0, mR 3 0 0), (1, mI a1), (2, mI a2), (3, mI a3), (4, mI (q3.2.1 30 0 (0 + k5)))]) (r := []) rfl rfl).trans ?_
            refine mi_bdc fun M9 => ?_
            refine (mx_steps 4 (pc' := 89) (ls' := [(0, mR 3 0 0), (1, mI a1), (2, mI a2), (3, mI a3), (4, mI (q3.2.1 30 0 (0 + k5)))]) (st' := [mI a3, mI 2, mI (q3.2.1 30 0 (0 + k5)), mR 3 0 0]) (M' := M9) rfl).trans ?_
            refine (mx_callV (z := 79) (as := [mR 3 0 0, mI (q3.2.1 30 0 (0 + k5)), mI 2, mI a3]) (pc' := 92) (ls' := [(0, mR 3 0 0), (1, mI a1), (2, mI a2), (3, mI a3), (4, mI (q3.2.1 30 0 (0 + k5)))]) (r := []) rfl rfl).trans ?_
            refine mi_bdc fun M10 => ?_
            refine (mx_steps 4 (pc' := 97) (ls' := [(0, mR 3 0 0), (1, mI a1), (2, mI a2), (3, mI a3), (4, mI (q3.2.1 30 0 (0 + k5)))]) (st' := [mI 1, mI 3, mI (q3.2.1 30 0 (0 + k5)), mR 3 0 0]) (M' := M10) rfl).trans ?_
            refine (mx_callV (z := 79) (as := [mR 3 0 0, mI (q3.2.1 30 0 (0 + k5)), mI 3, mI 1]) (pc' := 100) (ls' := [(0, mR 3 0 0), (1, mI a1), (2, mI a2), (3, mI a3), (4, mI (q3.2.1 30 0 (0 + k5)))]) (r := []) rfl rfl).trans ?_
            refine mi_bdc fun M11 => ?_
            refine (mx_steps 2 (pc' := 103) (ls' := [(0, mR 3 0 0), (1, mI a1), (2, mI a2), (3, mI a3), (4, mI (q3.2.1 30 0 (0 + k5)))]) (st' := [mI (q3.2.1 30 0 (0 + k5)), mR 3 0 0]) (M' := M11) rfl).trans ?_
            refine (mx_callV (z := 85) (as := [mR 3 0 0, mI (q3.2.1 30 0 (0 + k5))]) (pc' := 106) (ls' := [(0, mR 3 0 0), (1, mI a1), (2, mI a2), (3, mI a3), (4, mI (q3.2.1 30 0 (0 + k5)))]) (r := []) rfl rfl).trans ?_
            refine mi_bdc fun M12 => ?_
            refine (mx_steps 1 (pc' := 108) (ls' := [(0, mR 3 0 0), (1, mI a1), (2, mI a2), (3, mI a3), (4, mI (q3.2.1 30 0 (0 + k5)))]) (st' := [mI (q3.2.1 30 0 (0 + k5))]) (M' := M12) rfl).trans ?_
            exact mx_ret rfl rfl
          · refine (mx_steps 1 (pc' := 49) (ls' := [(0, mR 3 0 0), (1, mI a1), (2, mI a2), (3, mI a3)]) (st' := [mI ((-1004))]) (M' := q3.2) rfl).trans ?_
            exact mx_ret rfl rfl
        · refine (mx_steps 1 (pc' := 34) (ls' := [(0, mR 3 0 0), (1, mI a1), (2, mI a2), (3, mI a3)]) (st' := [mI ((-1002))]) (M' := q3.2) rfl).trans ?_
          exact mx_ret rfl rfl

set_option maxRecDepth 20000 in
theorem fM_doOwns_eq (a1 : Int32) (a2 : Int32) (a3 : Int32) (M : mM) : fM_doOwns a1 a2 a3 M = (fM_isNode a1 M).bind fun q1 => (if q1.1 = 0 then some ((-1002), q1.2) else (fM_isOwn a2 a3 q1.2).bind fun q2 => (if ¬ q2.1 = 0 then (fM_own a1 a2 a3 q2.2).bind fun M3 => fM_doOwns_L33 a1 0 0 M3 else some ((-1002), q2.2))) := by
  refine (mx_steps 2 (pc' := 2) (ls' := [(0, mR 3 0 0), (1, mI a1), (2, mI a2), (3, mI a3)]) (st' := [mI a1, mR 3 0 0]) (M' := M) rfl).trans ?_
  refine (mx_callI (z := 74) (as := [mR 3 0 0, mI a1]) (pc' := 5) (ls' := [(0, mR 3 0 0), (1, mI a1), (2, mI a2), (3, mI a3)]) (r := []) rfl (Or.inr rfl)).trans ?_
  refine mi_bdc fun q1 => ?_
  refine (mx_if (c := q1.1 = 0) (p1 := 16) (l1 := [(0, mR 3 0 0), (1, mI a1), (2, mI a2), (3, mI a3)]) (s1 := []) (M1 := q1.2) (p2 := 8) (l2 := [(0, mR 3 0 0), (1, mI a1), (2, mI a2), (3, mI a3)]) (s2 := []) (M2 := q1.2) rfl).trans ?_
  refine mi_itc ?_ ?_
  · refine (mx_steps 1 (pc' := 19) (ls' := [(0, mR 3 0 0), (1, mI a1), (2, mI a2), (3, mI a3)]) (st' := [mI ((-1002))]) (M' := q1.2) rfl).trans ?_
    exact mx_ret rfl rfl
  · refine (mx_steps 2 (pc' := 10) (ls' := [(0, mR 3 0 0), (1, mI a1), (2, mI a2), (3, mI a3)]) (st' := [mI a3, mI a2]) (M' := q1.2) rfl).trans ?_
    refine (mx_callI (z := 82) (as := [mI a2, mI a3]) (pc' := 13) (ls' := [(0, mR 3 0 0), (1, mI a1), (2, mI a2), (3, mI a3)]) (r := []) rfl (Or.inr rfl)).trans ?_
    refine mi_bdc fun q2 => ?_
    refine (mx_if (c := ¬ q2.1 = 0) (p1 := 20) (l1 := [(0, mR 3 0 0), (1, mI a1), (2, mI a2), (3, mI a3)]) (s1 := []) (M1 := q2.2) (p2 := 16) (l2 := [(0, mR 3 0 0), (1, mI a1), (2, mI a2), (3, mI a3)]) (s2 := []) (M2 := q2.2) rfl).trans ?_
    refine mi_itc ?_ ?_
    · refine (mx_steps 4 (pc' := 24) (ls' := [(0, mR 3 0 0), (1, mI a1), (2, mI a2), (3, mI a3)]) (st' := [mI a3, mI a2, mI a1, mR 3 0 0]) (M' := q2.2) rfl).trans ?_
      refine (mx_callV (z := 83) (as := [mR 3 0 0, mI a1, mI a2, mI a3]) (pc' := 27) (ls' := [(0, mR 3 0 0), (1, mI a1), (2, mI a2), (3, mI a3)]) (r := []) rfl rfl).trans ?_
      refine mi_bdc fun M3 => ?_
      refine (mx_steps 4 (pc' := 33) (ls' := [(0, mR 3 0 0), (1, mI a1), (4, mI 0), (5, mI 0)]) (st' := []) (M' := M3) rfl).trans ?_
      rfl
    · refine (mx_steps 1 (pc' := 19) (ls' := [(0, mR 3 0 0), (1, mI a1), (2, mI a2), (3, mI a3)]) (st' := [mI ((-1002))]) (M' := q2.2) rfl).trans ?_
      exact mx_ret rfl rfl

set_option maxRecDepth 20000 in
theorem fM_doOwns_L33_eq (v1 : Int32) (v4 : Int32) (v5 : Int32) (M : mM) : fM_doOwns_L33 v1 v4 v5 M = (mi_ix 4 154).bind fun k1 => (if (M.1 30 0 (0 + k1)) ≤ v5 then some (v4, M) else (fM_sourceOf v5 M).bind fun q2 => (if ¬ q2.1 = v1 then fM_doOwns_L33 v1 (v4 + 0) (v5 + 1) q2.2 else fM_doOwns_L33 v1 (v4 + 1) (v5 + 1) q2.2)) := by
  refine (mx_steps 4 (pc' := 40) (ls' := [(0, mR 3 0 0), (1, mI v1), (4, mI v4), (5, mI v5)]) (st' := [mI 4, mR 30 0 0, mI v5]) (M' := M) rfl).trans ?_
  refine (mx_ix (i := 4) (n := 154) (pc' := 41) (ls' := [(0, mR 3 0 0), (1, mI v1), (4, mI v4), (5, mI v5)]) (sf := fun k1 => [mI (M.1 30 0 (0 + k1)), mI v5]) (Mf := fun k1 => M) rfl).trans ?_
  refine mi_bdc fun k1 => ?_
  refine (mx_if (c := (M.1 30 0 (0 + k1)) ≤ v5) (p1 := 70) (l1 := [(0, mR 3 0 0), (1, mI v1), (4, mI v4), (5, mI v5)]) (s1 := []) (M1 := M) (p2 := 44) (l2 := [(0, mR 3 0 0), (1, mI v1), (4, mI v4), (5, mI v5)]) (s2 := []) (M2 := M) rfl).trans ?_
  refine mi_itc ?_ ?_
  · refine (mx_steps 1 (pc' := 72) (ls' := [(0, mR 3 0 0), (1, mI v1), (4, mI v4), (5, mI v5)]) (st' := [mI v4]) (M' := M) rfl).trans ?_
    exact mx_ret rfl rfl
  · refine (mx_steps 3 (pc' := 49) (ls' := [(0, mR 3 0 0), (1, mI v1), (4, mI v4), (5, mI v5)]) (st' := [mI v5, mR 3 0 0, mI v4]) (M' := M) rfl).trans ?_
    refine (mx_callI (z := 80) (as := [mR 3 0 0, mI v5]) (pc' := 52) (ls' := [(0, mR 3 0 0), (1, mI v1), (4, mI v4), (5, mI v5)]) (r := [mI v4]) rfl (Or.inl rfl)).trans ?_
    refine mi_bdc fun q2 => ?_
    refine (mx_steps 1 (pc' := 53) (ls' := [(0, mR 3 0 0), (1, mI v1), (4, mI v4), (5, mI v5)]) (st' := [mI v1, mI q2.1, mI v4]) (M' := q2.2) rfl).trans ?_
    refine (mx_if (c := ¬ q2.1 = v1) (p1 := 60) (l1 := [(0, mR 3 0 0), (1, mI v1), (4, mI v4), (5, mI v5)]) (s1 := [mI v4]) (M1 := q2.2) (p2 := 56) (l2 := [(0, mR 3 0 0), (1, mI v1), (4, mI v4), (5, mI v5)]) (s2 := [mI v4]) (M2 := q2.2) rfl).trans ?_
    refine mi_itc ?_ ?_
    · refine (mx_steps 5 (pc' := 33) (ls' := [(0, mR 3 0 0), (1, mI v1), (4, mI (v4 + 0)), (5, mI (v5 + 1))]) (st' := []) (M' := q2.2) rfl).trans ?_
      rfl
    · refine (mx_steps 6 (pc' := 33) (ls' := [(0, mR 3 0 0), (1, mI v1), (4, mI (v4 + 1)), (5, mI (v5 + 1))]) (st' := []) (M' := q2.2) rfl).trans ?_
      rfl

set_option maxRecDepth 20000 in
theorem fM_doTurns_eq (a1 : Int32) (M : mM) : fM_doTurns a1 M = (fM_isLink a1 M).bind fun q1 => (if ¬ q1.1 = 0 then (fM_linkAt a1 3 q1.2).bind fun q2 => (fM_putLink a1 3 (1 - q2.1) q2.2).bind fun M3 => (fM_linkAt a1 3 M3).bind fun q4 => some (q4.1, q4.2) else some ((-1002), q1.2)) := by
  refine (mx_steps 2 (pc' := 2) (ls' := [(0, mR 3 0 0), (1, mI a1)]) (st' := [mI a1, mR 3 0 0]) (M' := M) rfl).trans ?_
  refine (mx_callI (z := 75) (as := [mR 3 0 0, mI a1]) (pc' := 5) (ls' := [(0, mR 3 0 0), (1, mI a1)]) (r := []) rfl (Or.inr rfl)).trans ?_
  refine mi_bdc fun q1 => ?_
  refine (mx_if (c := ¬ q1.1 = 0) (p1 := 12) (l1 := [(0, mR 3 0 0), (1, mI a1)]) (s1 := []) (M1 := q1.2) (p2 := 8) (l2 := [(0, mR 3 0 0), (1, mI a1)]) (s2 := []) (M2 := q1.2) rfl).trans ?_
  refine mi_itc ?_ ?_
  · refine (mx_steps 7 (pc' := 19) (ls' := [(0, mR 3 0 0), (1, mI a1)]) (st' := [mI 3, mI a1, mR 3 0 0, mI 1, mI 3, mI a1, mR 3 0 0]) (M' := q1.2) rfl).trans ?_
    refine (mx_callI (z := 78) (as := [mR 3 0 0, mI a1, mI 3]) (pc' := 22) (ls' := [(0, mR 3 0 0), (1, mI a1)]) (r := [mI 1, mI 3, mI a1, mR 3 0 0]) rfl (Or.inl rfl)).trans ?_
    refine mi_bdc fun q2 => ?_
    refine (mx_steps 1 (pc' := 23) (ls' := [(0, mR 3 0 0), (1, mI a1)]) (st' := [mI (1 - q2.1), mI 3, mI a1, mR 3 0 0]) (M' := q2.2) rfl).trans ?_
    refine (mx_callV (z := 79) (as := [mR 3 0 0, mI a1, mI 3, mI (1 - q2.1)]) (pc' := 26) (ls' := [(0, mR 3 0 0), (1, mI a1)]) (r := []) rfl rfl).trans ?_
    refine mi_bdc fun M3 => ?_
    refine (mx_steps 3 (pc' := 29) (ls' := [(0, mR 3 0 0), (1, mI a1)]) (st' := [mI 3, mI a1, mR 3 0 0]) (M' := M3) rfl).trans ?_
    refine (mx_callI (z := 78) (as := [mR 3 0 0, mI a1, mI 3]) (pc' := 32) (ls' := [(0, mR 3 0 0), (1, mI a1)]) (r := []) rfl (Or.inl rfl)).trans ?_
    refine mi_bdc fun q4 => ?_
    exact mx_ret rfl rfl
  · refine (mx_steps 1 (pc' := 11) (ls' := [(0, mR 3 0 0), (1, mI a1)]) (st' := [mI ((-1002))]) (M' := q1.2) rfl).trans ?_
    exact mx_ret rfl rfl

set_option maxRecDepth 20000 in
theorem fM_doSets_eq (a1 : Int32) (a2 : Int32) (M : mM) : fM_doSets a1 a2 M = (if ¬ a1 = 0 then (if ¬ a1 = 1 then (if ¬ a1 = 2 then fM_doSets_L49 a1 a2 M else (fM_in a2 1 9 M).bind fun q1 => (if q1.1 = 0 then fM_doSets_L49 a1 a2 q1.2 else fM_doSets_L50 a1 a2 1 q1.2)) else (fM_in a2 0 128 M).bind fun q2 => fM_doSets_L50 a1 a2 q2.1 q2.2) else (fM_in a2 4 64 M).bind fun q3 => fM_doSets_L50 a1 a2 q3.1 q3.2) := by
  refine (mx_steps 1 (pc' := 1) (ls' := [(0, mR 3 0 0), (1, mI a1), (2, mI a2)]) (st' := [mI a1]) (M' := M) rfl).trans ?_
  refine (mx_if (c := ¬ a1 = 0) (p1 := 14) (l1 := [(0, mR 3 0 0), (1, mI a1), (2, mI a2)]) (s1 := []) (M1 := M) (p2 := 4) (l2 := [(0, mR 3 0 0), (1, mI a1), (2, mI a2)]) (s2 := []) (M2 := M) rfl).trans ?_
  refine mi_itc ?_ ?_
  · refine (mx_steps 2 (pc' := 16) (ls' := [(0, mR 3 0 0), (1, mI a1), (2, mI a2)]) (st' := [mI 1, mI a1]) (M' := M) rfl).trans ?_
    refine (mx_if (c := ¬ a1 = 1) (p1 := 30) (l1 := [(0, mR 3 0 0), (1, mI a1), (2, mI a2)]) (s1 := []) (M1 := M) (p2 := 19) (l2 := [(0, mR 3 0 0), (1, mI a1), (2, mI a2)]) (s2 := []) (M2 := M) rfl).trans ?_
    refine mi_itc ?_ ?_
    · refine (mx_steps 2 (pc' := 32) (ls' := [(0, mR 3 0 0), (1, mI a1), (2, mI a2)]) (st' := [mI 2, mI a1]) (M' := M) rfl).trans ?_
      refine (mx_if (c := ¬ a1 = 2) (p1 := 49) (l1 := [(0, mR 3 0 0), (1, mI a1), (2, mI a2)]) (s1 := []) (M1 := M) (p2 := 35) (l2 := [(0, mR 3 0 0), (1, mI a1), (2, mI a2)]) (s2 := []) (M2 := M) rfl).trans ?_
      refine mi_itc ?_ ?_
      · rfl
      · refine (mx_steps 3 (pc' := 39) (ls' := [(0, mR 3 0 0), (1, mI a1), (2, mI a2)]) (st' := [mI 9, mI 1, mI a2]) (M' := M) rfl).trans ?_
        refine (mx_callI (z := 68) (as := [mI a2, mI 1, mI 9]) (pc' := 42) (ls' := [(0, mR 3 0 0), (1, mI a1), (2, mI a2)]) (r := []) rfl (Or.inr rfl)).trans ?_
        refine mi_bdc fun q1 => ?_
        refine (mx_if (c := q1.1 = 0) (p1 := 49) (l1 := [(0, mR 3 0 0), (1, mI a1), (2, mI a2)]) (s1 := []) (M1 := q1.2) (p2 := 45) (l2 := [(0, mR 3 0 0), (1, mI a1), (2, mI a2)]) (s2 := []) (M2 := q1.2) rfl).trans ?_
        refine mi_itc ?_ ?_
        · rfl
        · refine (mx_steps 2 (pc' := 50) (ls' := [(0, mR 3 0 0), (1, mI a1), (2, mI a2)]) (st' := [mI 1]) (M' := q1.2) rfl).trans ?_
          rfl
    · refine (mx_steps 3 (pc' := 24) (ls' := [(0, mR 3 0 0), (1, mI a1), (2, mI a2)]) (st' := [mI 128, mI 0, mI a2]) (M' := M) rfl).trans ?_
      refine (mx_callI (z := 68) (as := [mI a2, mI 0, mI 128]) (pc' := 27) (ls' := [(0, mR 3 0 0), (1, mI a1), (2, mI a2)]) (r := []) rfl (Or.inr rfl)).trans ?_
      refine mi_bdc fun q2 => ?_
      refine (mx_steps 1 (pc' := 50) (ls' := [(0, mR 3 0 0), (1, mI a1), (2, mI a2)]) (st' := [mI q2.1]) (M' := q2.2) rfl).trans ?_
      rfl
  · refine (mx_steps 3 (pc' := 8) (ls' := [(0, mR 3 0 0), (1, mI a1), (2, mI a2)]) (st' := [mI 64, mI 4, mI a2]) (M' := M) rfl).trans ?_
    refine (mx_callI (z := 68) (as := [mI a2, mI 4, mI 64]) (pc' := 11) (ls' := [(0, mR 3 0 0), (1, mI a1), (2, mI a2)]) (r := []) rfl (Or.inr rfl)).trans ?_
    refine mi_bdc fun q3 => ?_
    refine (mx_steps 1 (pc' := 50) (ls' := [(0, mR 3 0 0), (1, mI a1), (2, mI a2)]) (st' := [mI q3.1]) (M' := q3.2) rfl).trans ?_
    rfl

set_option maxRecDepth 20000 in
theorem fM_doSets_L49_eq (v1 : Int32) (v2 : Int32) (M : mM) : fM_doSets_L49 v1 v2 M = fM_doSets_L50 v1 v2 0 M := by
  refine (mx_steps 1 (pc' := 50) (ls' := [(0, mR 3 0 0), (1, mI v1), (2, mI v2)]) (st' := [mI 0]) (M' := M) rfl).trans ?_
  rfl

set_option maxRecDepth 20000 in
theorem fM_doSets_L50_eq (v1 : Int32) (v2 : Int32) (s0 : Int32) (M : mM) : fM_doSets_L50 v1 v2 s0 M = (if ¬ s0 = 0 then (mi_ix v1 154).bind fun k1 => (mi_ix v1 154).bind fun k2 => fM_doSets_L77 v1 (M.1 30 0 (0 + k1)) 0 (mi_set M 30 0 (0 + k2) v2) else some ((-1002), M)) := by
  refine (mx_steps 2 (pc' := 52) (ls' := [(0, mR 3 0 0), (1, mI v1), (2, mI v2), (3, mI s0)]) (st' := [mI s0]) (M' := M) rfl).trans ?_
  refine (mx_if (c := ¬ s0 = 0) (p1 := 59) (l1 := [(0, mR 3 0 0), (1, mI v1), (2, mI v2), (3, mI s0)]) (s1 := []) (M1 := M) (p2 := 55) (l2 := [(0, mR 3 0 0), (1, mI v1), (2, mI v2), (3, mI s0)]) (s2 := []) (M2 := M) rfl).trans ?_
  refine mi_itc ?_ ?_
  · refine (mx_steps 3 (pc' := 64) (ls' := [(0, mR 3 0 0), (1, mI v1), (2, mI v2), (3, mI s0)]) (st' := [mI v1, mR 30 0 0]) (M' := M) rfl).trans ?_
    refine (mx_ix (i := v1) (n := 154) (pc' := 65) (ls' := [(0, mR 3 0 0), (1, mI v1), (2, mI v2), (3, mI s0)]) (sf := fun k1 => [mI (M.1 30 0 (0 + k1))]) (Mf := fun k1 => M) rfl).trans ?_
    refine mi_bdc fun k1 => ?_
    refine (mx_steps 5 (pc' := 73) (ls' := [(0, mR 3 0 0), (1, mI v1), (2, mI v2), (3, mI s0), (4, mI (M.1 30 0 (0 + k1)))]) (st' := [mI v2, mI v1, mR 30 0 0]) (M' := M) rfl).trans ?_
    refine (mx_ix (i := v1) (n := 154) (pc' := 74) (ls' := [(0, mR 3 0 0), (1, mI v1), (2, mI v2), (3, mI s0), (4, mI (M.1 30 0 (0 + k1)))]) (sf := fun k2 => []) (Mf := fun k2 => mi_set M 30 0 (0 + k2) v2) rfl).trans ?_
    refine mi_bdc fun k2 => ?_
    refine (mx_steps 2 (pc' := 77) (ls' := [(0, mR 3 0 0), (1, mI v1), (4, mI (M.1 30 0 (0 + k1))), (5, mI 0)]) (st' := []) (M' := mi_set M 30 0 (0 + k2) v2) rfl).trans ?_
    rfl
  · refine (mx_steps 1 (pc' := 58) (ls' := [(0, mR 3 0 0), (1, mI v1), (2, mI v2), (3, mI s0)]) (st' := [mI ((-1002))]) (M' := M) rfl).trans ?_
    exact mx_ret rfl rfl

set_option maxRecDepth 20000 in
theorem fM_doSets_L77_eq (v1 : Int32) (v4 : Int32) (v5 : Int32) (M : mM) : fM_doSets_L77 v1 v4 v5 M = (mi_ix 5 154).bind fun k1 => (if (M.1 30 0 (0 + k1)) ≤ v5 then some (v4, M) else (if ¬ v1 = 0 then some (v4, M) else (fM_fill v5 M).bind fun M2 => fM_doSets_L77 v1 v4 (v5 + 1) M2)) := by
  refine (mx_steps 4 (pc' := 84) (ls' := [(0, mR 3 0 0), (1, mI v1), (4, mI v4), (5, mI v5)]) (st' := [mI 5, mR 30 0 0, mI v5]) (M' := M) rfl).trans ?_
  refine (mx_ix (i := 5) (n := 154) (pc' := 85) (ls' := [(0, mR 3 0 0), (1, mI v1), (4, mI v4), (5, mI v5)]) (sf := fun k1 => [mI (M.1 30 0 (0 + k1)), mI v5]) (Mf := fun k1 => M) rfl).trans ?_
  refine mi_bdc fun k1 => ?_
  refine (mx_if (c := (M.1 30 0 (0 + k1)) ≤ v5) (p1 := 104) (l1 := [(0, mR 3 0 0), (1, mI v1), (4, mI v4), (5, mI v5)]) (s1 := []) (M1 := M) (p2 := 88) (l2 := [(0, mR 3 0 0), (1, mI v1), (4, mI v4), (5, mI v5)]) (s2 := []) (M2 := M) rfl).trans ?_
  refine mi_itc ?_ ?_
  · refine (mx_steps 1 (pc' := 106) (ls' := [(0, mR 3 0 0), (1, mI v1), (4, mI v4), (5, mI v5)]) (st' := [mI v4]) (M' := M) rfl).trans ?_
    exact mx_ret rfl rfl
  · refine (mx_steps 1 (pc' := 89) (ls' := [(0, mR 3 0 0), (1, mI v1), (4, mI v4), (5, mI v5)]) (st' := [mI v1]) (M' := M) rfl).trans ?_
    refine (mx_if (c := ¬ v1 = 0) (p1 := 104) (l1 := [(0, mR 3 0 0), (1, mI v1), (4, mI v4), (5, mI v5)]) (s1 := []) (M1 := M) (p2 := 92) (l2 := [(0, mR 3 0 0), (1, mI v1), (4, mI v4), (5, mI v5)]) (s2 := []) (M2 := M) rfl).trans ?_
    refine mi_itc ?_ ?_
    · refine (mx_steps 1 (pc' := 106) (ls' := [(0, mR 3 0 0), (1, mI v1), (4, mI v4), (5, mI v5)]) (st' := [mI v4]) (M' := M) rfl).trans ?_
      exact mx_ret rfl rfl
    · refine (mx_steps 2 (pc' := 95) (ls' := [(0, mR 3 0 0), (1, mI v1), (4, mI v4), (5, mI v5)]) (st' := [mI v5, mR 3 0 0]) (M' := M) rfl).trans ?_
      refine (mx_callV (z := 85) (as := [mR 3 0 0, mI v5]) (pc' := 98) (ls' := [(0, mR 3 0 0), (1, mI v1), (4, mI v4), (5, mI v5)]) (r := []) rfl rfl).trans ?_
      refine mi_bdc fun M2 => ?_
      refine (mx_steps 2 (pc' := 77) (ls' := [(0, mR 3 0 0), (1, mI v1), (4, mI v4), (5, mI (v5 + 1))]) (st' := []) (M' := M2) rfl).trans ?_
      rfl

set_option maxRecDepth 20000 in
theorem fM_doClears_eq (a1 : Int32) (M : mM) : fM_doClears a1 M = (fM_isLink a1 M).bind fun q1 => (if ¬ q1.1 = 0 then (fM_linkAt a1 5 q1.2).bind fun q2 => (fM_linkAt a1 6 q2.2).bind fun q3 => (fM_reset a1 q3.2).bind fun M4 => some (q2.1 + q3.1, M4) else some ((-1002), q1.2)) := by
  refine (mx_steps 2 (pc' := 2) (ls' := [(0, mR 3 0 0), (1, mI a1)]) (st' := [mI a1, mR 3 0 0]) (M' := M) rfl).trans ?_
  refine (mx_callI (z := 75) (as := [mR 3 0 0, mI a1]) (pc' := 5) (ls' := [(0, mR 3 0 0), (1, mI a1)]) (r := []) rfl (Or.inr rfl)).trans ?_
  refine mi_bdc fun q1 => ?_
  refine (mx_if (c := ¬ q1.1 = 0) (p1 := 12) (l1 := [(0, mR 3 0 0), (1, mI a1)]) (s1 := []) (M1 := q1.2) (p2 := 8) (l2 := [(0, mR 3 0 0), (1, mI a1)]) (s2 := []) (M2 := q1.2) rfl).trans ?_
  refine mi_itc ?_ ?_
  · refine (mx_steps 3 (pc' := 15) (ls' := [(0, mR 3 0 0), (1, mI a1)]) (st' := [mI 5, mI a1, mR 3 0 0]) (M' := q1.2) rfl).trans ?_
    refine (mx_callI (z := 78) (as := [mR 3 0 0, mI a1, mI 5]) (pc' := 18) (ls' := [(0, mR 3 0 0), (1, mI a1)]) (r := []) rfl (Or.inl rfl)).trans ?_
    refine mi_bdc fun q2 => ?_
    refine (mx_steps 3 (pc' := 22) (ls' := [(0, mR 3 0 0), (1, mI a1)]) (st' := [mI 6, mI a1, mR 3 0 0, mI q2.1]) (M' := q2.2) rfl).trans ?_
    refine (mx_callI (z := 78) (as := [mR 3 0 0, mI a1, mI 6]) (pc' := 25) (ls' := [(0, mR 3 0 0), (1, mI a1)]) (r := [mI q2.1]) rfl (Or.inl rfl)).trans ?_
    refine mi_bdc fun q3 => ?_
    refine (mx_steps 4 (pc' := 29) (ls' := [(0, mR 3 0 0), (1, mI a1), (2, mI (q2.1 + q3.1))]) (st' := [mI a1, mR 3 0 0]) (M' := q3.2) rfl).trans ?_
    refine (mx_callV (z := 86) (as := [mR 3 0 0, mI a1]) (pc' := 32) (ls' := [(0, mR 3 0 0), (1, mI a1), (2, mI (q2.1 + q3.1))]) (r := []) rfl rfl).trans ?_
    refine mi_bdc fun M4 => ?_
    refine (mx_steps 1 (pc' := 33) (ls' := [(0, mR 3 0 0), (1, mI a1), (2, mI (q2.1 + q3.1))]) (st' := [mI (q2.1 + q3.1)]) (M' := M4) rfl).trans ?_
    exact mx_ret rfl rfl
  · refine (mx_steps 1 (pc' := 11) (ls' := [(0, mR 3 0 0), (1, mI a1)]) (st' := [mI ((-1002))]) (M' := q1.2) rfl).trans ?_
    exact mx_ret rfl rfl

set_option maxRecDepth 20000 in
theorem fM_isOffered_eq (a1 : Int32) (M : mM) : fM_isOffered a1 M = (fM_linkAt a1 0 M).bind fun q1 => (fM_linkAt a1 3 q1.2).bind fun q2 => (if ¬ q2.1 = 1 then some (0, q2.2) else (fM_sourceOf q1.1 q2.2).bind fun q3 => (fM_linkAt a1 1 q3.2).bind fun q4 => (if q3.1 = q4.1 then some (0, q4.2) else (fM_nodeAt q1.1 1 q4.2).bind fun q5 => (mi_ix 2 154).bind fun k6 => (if (q5.2.1 30 0 (0 + k6)) ≤ q5.1 then some (0, q5.2) else some (1, q5.2)))) := by
  refine (mx_steps 3 (pc' := 3) (ls' := [(0, mR 3 0 0), (1, mI a1)]) (st' := [mI 0, mI a1, mR 3 0 0]) (M' := M) rfl).trans ?_
  refine (mx_callI (z := 78) (as := [mR 3 0 0, mI a1, mI 0]) (pc' := 6) (ls' := [(0, mR 3 0 0), (1, mI a1)]) (r := []) rfl (Or.inl rfl)).trans ?_
  refine mi_bdc fun q1 => ?_
  refine (mx_steps 4 (pc' := 10) (ls' := [(0, mR 3 0 0), (1, mI a1), (2, mI q1.1)]) (st' := [mI 3, mI a1, mR 3 0 0]) (M' := q1.2) rfl).trans ?_
  refine (mx_callI (z := 78) (as := [mR 3 0 0, mI a1, mI 3]) (pc' := 13) (ls' := [(0, mR 3 0 0), (1, mI a1), (2, mI q1.1)]) (r := []) rfl (Or.inl rfl)).trans ?_
  refine mi_bdc fun q2 => ?_
  refine (mx_steps 1 (pc' := 14) (ls' := [(0, mR 3 0 0), (1, mI a1), (2, mI q1.1)]) (st' := [mI 1, mI q2.1]) (M' := q2.2) rfl).trans ?_
  refine (mx_if (c := ¬ q2.1 = 1) (p1 := 50) (l1 := [(0, mR 3 0 0), (1, mI a1), (2, mI q1.1)]) (s1 := []) (M1 := q2.2) (p2 := 17) (l2 := [(0, mR 3 0 0), (1, mI a1), (2, mI q1.1)]) (s2 := []) (M2 := q2.2) rfl).trans ?_
  refine mi_itc ?_ ?_
  · refine (mx_steps 1 (pc' := 51) (ls' := [(0, mR 3 0 0), (1, mI a1), (2, mI q1.1)]) (st' := [mI 0]) (M' := q2.2) rfl).trans ?_
    exact mx_ret rfl rfl
  · refine (mx_steps 2 (pc' := 19) (ls' := [(0, mR 3 0 0), (1, mI a1), (2, mI q1.1)]) (st' := [mI q1.1, mR 3 0 0]) (M' := q2.2) rfl).trans ?_
    refine (mx_callI (z := 80) (as := [mR 3 0 0, mI q1.1]) (pc' := 22) (ls' := [(0, mR 3 0 0), (1, mI a1), (2, mI q1.1)]) (r := []) rfl (Or.inl rfl)).trans ?_
    refine mi_bdc fun q3 => ?_
    refine (mx_steps 3 (pc' := 25) (ls' := [(0, mR 3 0 0), (1, mI a1), (2, mI q1.1)]) (st' := [mI 1, mI a1, mR 3 0 0, mI q3.1]) (M' := q3.2) rfl).trans ?_
    refine (mx_callI (z := 78) (as := [mR 3 0 0, mI a1, mI 1]) (pc' := 28) (ls' := [(0, mR 3 0 0), (1, mI a1), (2, mI q1.1)]) (r := [mI q3.1]) rfl (Or.inl rfl)).trans ?_
    refine mi_bdc fun q4 => ?_
    refine (mx_if (c := q3.1 = q4.1) (p1 := 50) (l1 := [(0, mR 3 0 0), (1, mI a1), (2, mI q1.1)]) (s1 := []) (M1 := q4.2) (p2 := 31) (l2 := [(0, mR 3 0 0), (1, mI a1), (2, mI q1.1)]) (s2 := []) (M2 := q4.2) rfl).trans ?_
    refine mi_itc ?_ ?_
    · refine (mx_steps 1 (pc' := 51) (ls' := [(0, mR 3 0 0), (1, mI a1), (2, mI q1.1)]) (st' := [mI 0]) (M' := q4.2) rfl).trans ?_
      exact mx_ret rfl rfl
    · refine (mx_steps 3 (pc' := 34) (ls' := [(0, mR 3 0 0), (1, mI a1), (2, mI q1.1)]) (st' := [mI 1, mI q1.1, mR 3 0 0]) (M' := q4.2) rfl).trans ?_
      refine (mx_callI (z := 76) (as := [mR 3 0 0, mI q1.1, mI 1]) (pc' := 37) (ls' := [(0, mR 3 0 0), (1, mI a1), (2, mI q1.1)]) (r := []) rfl (Or.inl rfl)).trans ?_
      refine mi_bdc fun q5 => ?_
      refine (mx_steps 3 (pc' := 42) (ls' := [(0, mR 3 0 0), (1, mI a1), (2, mI q1.1)]) (st' := [mI 2, mR 30 0 0, mI q5.1]) (M' := q5.2) rfl).trans ?_
      refine (mx_ix (i := 2) (n := 154) (pc' := 43) (ls' := [(0, mR 3 0 0), (1, mI a1), (2, mI q1.1)]) (sf := fun k6 => [mI (q5.2.1 30 0 (0 + k6)), mI q5.1]) (Mf := fun k6 => q5.2) rfl).trans ?_
      refine mi_bdc fun k6 => ?_
      refine (mx_if (c := (q5.2.1 30 0 (0 + k6)) ≤ q5.1) (p1 := 50) (l1 := [(0, mR 3 0 0), (1, mI a1), (2, mI q1.1)]) (s1 := []) (M1 := q5.2) (p2 := 46) (l2 := [(0, mR 3 0 0), (1, mI a1), (2, mI q1.1)]) (s2 := []) (M2 := q5.2) rfl).trans ?_
      refine mi_itc ?_ ?_
      · refine (mx_steps 1 (pc' := 51) (ls' := [(0, mR 3 0 0), (1, mI a1), (2, mI q1.1)]) (st' := [mI 0]) (M' := q5.2) rfl).trans ?_
        exact mx_ret rfl rfl
      · refine (mx_steps 2 (pc' := 51) (ls' := [(0, mR 3 0 0), (1, mI a1), (2, mI q1.1)]) (st' := [mI 1]) (M' := q5.2) rfl).trans ?_
        exact mx_ret rfl rfl

set_option maxRecDepth 20000 in
theorem fM_offerOf_eq (a1 : Int32) (a2 : Int32) (M : mM) : fM_offerOf a1 a2 M = (fM_linkAt a1 0 M).bind fun q1 => (if ¬ a2 = 0 then (if ¬ a2 = 1 then (fM_nodeAt q1.1 2 q1.2).bind fun q2 => some (q2.1, q2.2) else (fM_nodeAt q1.1 1 q1.2).bind fun q3 => some (q3.1 + 1, q3.2)) else (fM_nodeAt q1.1 0 q1.2).bind fun q4 => some (q4.1, q4.2)) := by
  refine (mx_steps 3 (pc' := 3) (ls' := [(0, mR 3 0 0), (1, mI a1), (2, mI a2)]) (st' := [mI 0, mI a1, mR 3 0 0]) (M' := M) rfl).trans ?_
  refine (mx_callI (z := 78) (as := [mR 3 0 0, mI a1, mI 0]) (pc' := 6) (ls' := [(0, mR 3 0 0), (1, mI a1), (2, mI a2)]) (r := []) rfl (Or.inl rfl)).trans ?_
  refine mi_bdc fun q1 => ?_
  refine (mx_steps 2 (pc' := 8) (ls' := [(0, mR 3 0 0), (1, mI a1), (2, mI a2), (3, mI q1.1)]) (st' := [mI a2]) (M' := q1.2) rfl).trans ?_
  refine (mx_if (c := ¬ a2 = 0) (p1 := 20) (l1 := [(0, mR 3 0 0), (1, mI a1), (2, mI a2), (3, mI q1.1)]) (s1 := []) (M1 := q1.2) (p2 := 11) (l2 := [(0, mR 3 0 0), (1, mI a1), (2, mI a2), (3, mI q1.1)]) (s2 := []) (M2 := q1.2) rfl).trans ?_
  refine mi_itc ?_ ?_
  · refine (mx_steps 2 (pc' := 22) (ls' := [(0, mR 3 0 0), (1, mI a1), (2, mI a2), (3, mI q1.1)]) (st' := [mI 1, mI a2]) (M' := q1.2) rfl).trans ?_
    refine (mx_if (c := ¬ a2 = 1) (p1 := 36) (l1 := [(0, mR 3 0 0), (1, mI a1), (2, mI a2), (3, mI q1.1)]) (s1 := []) (M1 := q1.2) (p2 := 25) (l2 := [(0, mR 3 0 0), (1, mI a1), (2, mI a2), (3, mI q1.1)]) (s2 := []) (M2 := q1.2) rfl).trans ?_
    refine mi_itc ?_ ?_
    · refine (mx_steps 3 (pc' := 39) (ls' := [(0, mR 3 0 0), (1, mI a1), (2, mI a2), (3, mI q1.1)]) (st' := [mI 2, mI q1.1, mR 3 0 0]) (M' := q1.2) rfl).trans ?_
      refine (mx_callI (z := 76) (as := [mR 3 0 0, mI q1.1, mI 2]) (pc' := 42) (ls' := [(0, mR 3 0 0), (1, mI a1), (2, mI a2), (3, mI q1.1)]) (r := []) rfl (Or.inl rfl)).trans ?_
      refine mi_bdc fun q2 => ?_
      exact mx_ret rfl rfl
    · refine (mx_steps 3 (pc' := 28) (ls' := [(0, mR 3 0 0), (1, mI a1), (2, mI a2), (3, mI q1.1)]) (st' := [mI 1, mI q1.1, mR 3 0 0]) (M' := q1.2) rfl).trans ?_
      refine (mx_callI (z := 76) (as := [mR 3 0 0, mI q1.1, mI 1]) (pc' := 31) (ls' := [(0, mR 3 0 0), (1, mI a1), (2, mI a2), (3, mI q1.1)]) (r := []) rfl (Or.inl rfl)).trans ?_
      refine mi_bdc fun q3 => ?_
      refine (mx_steps 3 (pc' := 42) (ls' := [(0, mR 3 0 0), (1, mI a1), (2, mI a2), (3, mI q1.1)]) (st' := [mI (q3.1 + 1)]) (M' := q3.2) rfl).trans ?_
      exact mx_ret rfl rfl
  · refine (mx_steps 3 (pc' := 14) (ls' := [(0, mR 3 0 0), (1, mI a1), (2, mI a2), (3, mI q1.1)]) (st' := [mI 0, mI q1.1, mR 3 0 0]) (M' := q1.2) rfl).trans ?_
    refine (mx_callI (z := 76) (as := [mR 3 0 0, mI q1.1, mI 0]) (pc' := 17) (ls' := [(0, mR 3 0 0), (1, mI a1), (2, mI a2), (3, mI q1.1)]) (r := []) rfl (Or.inl rfl)).trans ?_
    refine mi_bdc fun q4 => ?_
    refine (mx_steps 1 (pc' := 42) (ls' := [(0, mR 3 0 0), (1, mI a1), (2, mI a2), (3, mI q1.1)]) (st' := [mI q4.1]) (M' := q4.2) rfl).trans ?_
    exact mx_ret rfl rfl

set_option maxRecDepth 20000 in
theorem fM_isAhead_eq (a1 : Int32) (a2 : Int32) (M : mM) : fM_isAhead a1 a2 M = (fM_offerOf a1 0 M).bind fun q1 => (fM_offerOf a1 1 q1.2).bind fun q2 => (fM_linkAt a1 2 q2.2).bind fun q3 => (fM_offerOf a2 0 q3.2).bind fun q4 => (fM_offerOf a2 1 q4.2).bind fun q5 => (fM_linkAt a2 2 q5.2).bind fun q6 => (if (((100 * q4.1) + (10 * q5.1)) + q6.1) ≤ (((100 * q1.1) + (10 * q2.1)) + q3.1) then some (0, q6.2) else some (1, q6.2)) := by
  refine (mx_steps 4 (pc' := 5) (ls' := [(0, mR 3 0 0), (1, mI a1), (2, mI a2)]) (st' := [mI 0, mI a1, mR 3 0 0, mI 100]) (M' := M) rfl).trans ?_
  refine (mx_callI (z := 93) (as := [mR 3 0 0, mI a1, mI 0]) (pc' := 8) (ls' := [(0, mR 3 0 0), (1, mI a1), (2, mI a2)]) (r := [mI 100]) rfl (Or.inl rfl)).trans ?_
  refine mi_bdc fun q1 => ?_
  refine (mx_steps 5 (pc' := 14) (ls' := [(0, mR 3 0 0), (1, mI a1), (2, mI a2)]) (st' := [mI 1, mI a1, mR 3 0 0, mI 10, mI (100 * q1.1)]) (M' := q1.2) rfl).trans ?_
  refine (mx_callI (z := 93) (as := [mR 3 0 0, mI a1, mI 1]) (pc' := 17) (ls' := [(0, mR 3 0 0), (1, mI a1), (2, mI a2)]) (r := [mI 10, mI (100 * q1.1)]) rfl (Or.inl rfl)).trans ?_
  refine mi_bdc fun q2 => ?_
  refine (mx_steps 5 (pc' := 22) (ls' := [(0, mR 3 0 0), (1, mI a1), (2, mI a2)]) (st' := [mI 2, mI a1, mR 3 0 0, mI ((100 * q1.1) + (10 * q2.1))]) (M' := q2.2) rfl).trans ?_
  refine (mx_callI (z := 78) (as := [mR 3 0 0, mI a1, mI 2]) (pc' := 25) (ls' := [(0, mR 3 0 0), (1, mI a1), (2, mI a2)]) (r := [mI ((100 * q1.1) + (10 * q2.1))]) rfl (Or.inl rfl)).trans ?_
  refine mi_bdc fun q3 => ?_
  refine (mx_steps 6 (pc' := 32) (ls' := [(0, mR 3 0 0), (1, mI a1), (2, mI a2), (3, mI (((100 * q1.1) + (10 * q2.1)) + q3.1))]) (st' := [mI 0, mI a2, mR 3 0 0, mI 100]) (M' := q3.2) rfl).trans ?_
  refine (mx_callI (z := 93) (as := [mR 3 0 0, mI a2, mI 0]) (pc' := 35) (ls' := [(0, mR 3 0 0), (1, mI a1), (2, mI a2), (3, mI (((100 * q1.1) + (10 * q2.1)) + q3.1))]) (r := [mI 100]) rfl (Or.inl rfl)).trans ?_
  refine mi_bdc fun q4 => ?_
  refine (mx_steps 5 (pc' := 41) (ls' := [(0, mR 3 0 0), (1, mI a1), (2, mI a2), (3, mI (((100 * q1.1) + (10 * q2.1)) + q3.1))]) (st' := [mI 1, mI a2, mR 3 0 0, mI 10, mI (100 * q4.1)]) (M' := q4.2) rfl).trans ?_
  refine (mx_callI (z := 93) (as := [mR 3 0 0, mI a2, mI 1]) (pc' := 44) (ls' := [(0, mR 3 0 0), (1, mI a1), (2, mI a2), (3, mI (((100 * q1.1) + (10 * q2.1)) + q3.1))]) (r := [mI 10, mI (100 * q4.1)]) rfl (Or.inl rfl)).trans ?_
  refine mi_bdc fun q5 => ?_
  refine (mx_steps 5 (pc' := 49) (ls' := [(0, mR 3 0 0), (1, mI a1), (2, mI a2), (3, mI (((100 * q1.1) + (10 * q2.1)) + q3.1))]) (st' := [mI 2, mI a2, mR 3 0 0, mI ((100 * q4.1) + (10 * q5.1))]) (M' := q5.2) rfl).trans ?_
  refine (mx_callI (z := 78) (as := [mR 3 0 0, mI a2, mI 2]) (pc' := 52) (ls' := [(0, mR 3 0 0), (1, mI a1), (2, mI a2), (3, mI (((100 * q1.1) + (10 * q2.1)) + q3.1))]) (r := [mI ((100 * q4.1) + (10 * q5.1))]) rfl (Or.inl rfl)).trans ?_
  refine mi_bdc fun q6 => ?_
  refine (mx_steps 4 (pc' := 58) (ls' := [(0, mR 3 0 0), (1, mI a1), (2, mI a2), (3, mI (((100 * q1.1) + (10 * q2.1)) + q3.1)), (4, mI (((100 * q4.1) + (10 * q5.1)) + q6.1))]) (st' := [mI (((100 * q4.1) + (10 * q5.1)) + q6.1), mI (((100 * q1.1) + (10 * q2.1)) + q3.1)]) (M' := q6.2) rfl).trans ?_
  refine (mx_if (c := (((100 * q4.1) + (10 * q5.1)) + q6.1) ≤ (((100 * q1.1) + (10 * q2.1)) + q3.1)) (p1 := 65) (l1 := [(0, mR 3 0 0), (1, mI a1), (2, mI a2), (3, mI (((100 * q1.1) + (10 * q2.1)) + q3.1)), (4, mI (((100 * q4.1) + (10 * q5.1)) + q6.1))]) (s1 := []) (M1 := q6.2) (p2 := 61) (l2 := [(0, mR 3 0 0), (1, mI a1), (2, mI a2), (3, mI (((100 * q1.1) + (10 * q2.1)) + q3.1)), (4, mI (((100 * q4.1) + (10 * q5.1)) + q6.1))]) (s2 := []) (M2 := q6.2) rfl).trans ?_
  refine mi_itc ?_ ?_
  · refine (mx_steps 1 (pc' := 66) (ls' := [(0, mR 3 0 0), (1, mI a1), (2, mI a2), (3, mI (((100 * q1.1) + (10 * q2.1)) + q3.1)), (4, mI (((100 * q4.1) + (10 * q5.1)) + q6.1))]) (st' := [mI 0]) (M' := q6.2) rfl).trans ?_
    exact mx_ret rfl rfl
  · refine (mx_steps 2 (pc' := 66) (ls' := [(0, mR 3 0 0), (1, mI a1), (2, mI a2), (3, mI (((100 * q1.1) + (10 * q2.1)) + q3.1)), (4, mI (((100 * q4.1) + (10 * q5.1)) + q6.1))]) (st' := [mI 1]) (M' := q6.2) rfl).trans ?_
    exact mx_ret rfl rfl

set_option maxRecDepth 20000 in
theorem fM_takes_eq (a1 : Int32) (M : mM) : fM_takes a1 M = fM_takes_L6 a1 ((-1001)) 0 M := by
  refine (mx_steps 4 (pc' := 6) (ls' := [(0, mR 3 0 0), (1, mI a1), (2, mI ((-1001))), (3, mI 0)]) (st' := []) (M' := M) rfl).trans ?_
  rfl

set_option maxRecDepth 20000 in
theorem fM_takes_L6_eq (v1 : Int32) (v2 : Int32) (v3 : Int32) (M : mM) : fM_takes_L6 v1 v2 v3 M = (mi_ix 5 154).bind fun k1 => (if (M.1 30 0 (0 + k1)) ≤ v3 then some (v2, M) else (fM_linkAt v3 1 M).bind fun q2 => (if ¬ q2.1 = v1 then fM_takes_L53 v1 v2 v3 q2.2 else (fM_isOffered v3 q2.2).bind fun q3 => (if q3.1 = 0 then fM_takes_L53 v1 v2 v3 q3.2 else (fM_offerOf v3 0 q3.2).bind fun q4 => (fM_nodeAt v1 4 q4.2).bind fun q5 => (if q5.1 ≤ q4.1 then fM_takes_L53 v1 v2 v3 q5.2 else fM_takes_L54 v1 v2 v3 1 q5.2)))) := by
  refine (mx_steps 4 (pc' := 12) (ls' := [(0, mR 3 0 0), (1, mI v1), (2, mI v2), (3, mI v3)]) (st' := [mI 5, mR 30 0 0, mI v3]) (M' := M) rfl).trans ?_
  refine (mx_ix (i := 5) (n := 154) (pc' := 13) (ls' := [(0, mR 3 0 0), (1, mI v1), (2, mI v2), (3, mI v3)]) (sf := fun k1 => [mI (M.1 30 0 (0 + k1)), mI v3]) (Mf := fun k1 => M) rfl).trans ?_
  refine mi_bdc fun k1 => ?_
  refine (mx_if (c := (M.1 30 0 (0 + k1)) ≤ v3) (p1 := 97) (l1 := [(0, mR 3 0 0), (1, mI v1), (2, mI v2), (3, mI v3)]) (s1 := []) (M1 := M) (p2 := 16) (l2 := [(0, mR 3 0 0), (1, mI v1), (2, mI v2), (3, mI v3)]) (s2 := []) (M2 := M) rfl).trans ?_
  refine mi_itc ?_ ?_
  · refine (mx_steps 1 (pc' := 98) (ls' := [(0, mR 3 0 0), (1, mI v1), (2, mI v2), (3, mI v3)]) (st' := [mI v2]) (M' := M) rfl).trans ?_
    exact mx_ret rfl rfl
  · refine (mx_steps 3 (pc' := 19) (ls' := [(0, mR 3 0 0), (1, mI v1), (2, mI v2), (3, mI v3)]) (st' := [mI 1, mI v3, mR 3 0 0]) (M' := M) rfl).trans ?_
    refine (mx_callI (z := 78) (as := [mR 3 0 0, mI v3, mI 1]) (pc' := 22) (ls' := [(0, mR 3 0 0), (1, mI v1), (2, mI v2), (3, mI v3)]) (r := []) rfl (Or.inl rfl)).trans ?_
    refine mi_bdc fun q2 => ?_
    refine (mx_steps 1 (pc' := 23) (ls' := [(0, mR 3 0 0), (1, mI v1), (2, mI v2), (3, mI v3)]) (st' := [mI v1, mI q2.1]) (M' := q2.2) rfl).trans ?_
    refine (mx_if (c := ¬ q2.1 = v1) (p1 := 53) (l1 := [(0, mR 3 0 0), (1, mI v1), (2, mI v2), (3, mI v3)]) (s1 := []) (M1 := q2.2) (p2 := 26) (l2 := [(0, mR 3 0 0), (1, mI v1), (2, mI v2), (3, mI v3)]) (s2 := []) (M2 := q2.2) rfl).trans ?_
    refine mi_itc ?_ ?_
    · rfl
    · refine (mx_steps 2 (pc' := 28) (ls' := [(0, mR 3 0 0), (1, mI v1), (2, mI v2), (3, mI v3)]) (st' := [mI v3, mR 3 0 0]) (M' := q2.2) rfl).trans ?_
      refine (mx_callI (z := 92) (as := [mR 3 0 0, mI v3]) (pc' := 31) (ls' := [(0, mR 3 0 0), (1, mI v1), (2, mI v2), (3, mI v3)]) (r := []) rfl (Or.inr rfl)).trans ?_
      refine mi_bdc fun q3 => ?_
      refine (mx_if (c := q3.1 = 0) (p1 := 53) (l1 := [(0, mR 3 0 0), (1, mI v1), (2, mI v2), (3, mI v3)]) (s1 := []) (M1 := q3.2) (p2 := 34) (l2 := [(0, mR 3 0 0), (1, mI v1), (2, mI v2), (3, mI v3)]) (s2 := []) (M2 := q3.2) rfl).trans ?_
      refine mi_itc ?_ ?_
      · rfl
      · refine (mx_steps 3 (pc' := 37) (ls' := [(0, mR 3 0 0), (1, mI v1), (2, mI v2), (3, mI v3)]) (st' := [mI 0, mI v3, mR 3 0 0]) (M' := q3.2) rfl).trans ?_
        refine (mx_callI (z := 93) (as := [mR 3 0 0, mI v3, mI 0]) (pc' := 40) (ls' := [(0, mR 3 0 0), (1, mI v1), (2, mI v2), (3, mI v3)]) (r := []) rfl (Or.inl rfl)).trans ?_
        refine mi_bdc fun q4 => ?_
        refine (mx_steps 3 (pc' := 43) (ls' := [(0, mR 3 0 0), (1, mI v1), (2, mI v2), (3, mI v3)]) (st' := [mI 4, mI v1, mR 3 0 0, mI q4.1]) (M' := q4.2) rfl).trans ?_
        refine (mx_callI (z := 76) (as := [mR 3 0 0, mI v1, mI 4]) (pc' := 46) (ls' := [(0, mR 3 0 0), (1, mI v1), (2, mI v2), (3, mI v3)]) (r := [mI q4.1]) rfl (Or.inl rfl)).trans ?_
        refine mi_bdc fun q5 => ?_
        refine (mx_if (c := q5.1 ≤ q4.1) (p1 := 53) (l1 := [(0, mR 3 0 0), (1, mI v1), (2, mI v2), (3, mI v3)]) (s1 := []) (M1 := q5.2) (p2 := 49) (l2 := [(0, mR 3 0 0), (1, mI v1), (2, mI v2), (3, mI v3)]) (s2 := []) (M2 := q5.2) rfl).trans ?_
        refine mi_itc ?_ ?_
        · rfl
        · refine (mx_steps 2 (pc' := 54) (ls' := [(0, mR 3 0 0), (1, mI v1), (2, mI v2), (3, mI v3)]) (st' := [mI 1]) (M' := q5.2) rfl).trans ?_
          rfl

set_option maxRecDepth 20000 in
theorem fM_takes_L53_eq (v1 : Int32) (v2 : Int32) (v3 : Int32) (M : mM) : fM_takes_L53 v1 v2 v3 M = fM_takes_L54 v1 v2 v3 0 M := by
  refine (mx_steps 1 (pc' := 54) (ls' := [(0, mR 3 0 0), (1, mI v1), (2, mI v2), (3, mI v3)]) (st' := [mI 0]) (M' := M) rfl).trans ?_
  rfl

set_option maxRecDepth 20000 in
theorem fM_takes_L54_eq (v1 : Int32) (v2 : Int32) (v3 : Int32) (s0 : Int32) (M : mM) : fM_takes_L54 v1 v2 v3 s0 M = (if s0 = 0 then fM_takes_L6 v1 v2 (v3 + 1) M else (if v2 = ((-1001)) then fM_takes_L6 v1 v3 (v3 + 1) M else (if 0 ≤ v2 then fM_takes_L79 v1 v2 v3 v3 v2 M else fM_takes_L79 v1 v2 v3 v3 0 M))) := by
  refine (mx_steps 2 (pc' := 58) (ls' := [(0, mR 3 0 0), (1, mI v1), (2, mI v2), (3, mI v3), (4, mI s0)]) (st' := [mI s0]) (M' := M) rfl).trans ?_
  refine (mx_if (c := s0 = 0) (p1 := 89) (l1 := [(0, mR 3 0 0), (1, mI v1), (2, mI v2), (3, mI v3), (4, mI s0)]) (s1 := []) (M1 := M) (p2 := 61) (l2 := [(0, mR 3 0 0), (1, mI v1), (2, mI v2), (3, mI v3), (4, mI s0)]) (s2 := []) (M2 := M) rfl).trans ?_
  refine mi_itc ?_ ?_
  · refine (mx_steps 4 (pc' := 6) (ls' := [(0, mR 3 0 0), (1, mI v1), (2, mI v2), (3, mI (v3 + 1))]) (st' := []) (M' := M) rfl).trans ?_
    rfl
  · refine (mx_steps 2 (pc' := 65) (ls' := [(0, mR 3 0 0), (1, mI v1), (2, mI v2), (3, mI v3), (4, mI s0)]) (st' := [mI ((-1001)), mI v2]) (M' := M) rfl).trans ?_
    refine (mx_if (c := v2 = ((-1001))) (p1 := 85) (l1 := [(0, mR 3 0 0), (1, mI v1), (2, mI v2), (3, mI v3), (4, mI s0)]) (s1 := []) (M1 := M) (p2 := 68) (l2 := [(0, mR 3 0 0), (1, mI v1), (2, mI v2), (3, mI v3), (4, mI s0)]) (s2 := []) (M2 := M) rfl).trans ?_
    refine mi_itc ?_ ?_
    · refine (mx_steps 5 (pc' := 6) (ls' := [(0, mR 3 0 0), (1, mI v1), (2, mI v3), (3, mI (v3 + 1))]) (st' := []) (M' := M) rfl).trans ?_
      rfl
    · refine (mx_steps 3 (pc' := 71) (ls' := [(0, mR 3 0 0), (1, mI v1), (2, mI v2), (3, mI v3), (4, mI s0)]) (st' := [mI v2, mI v3, mR 3 0 0]) (M' := M) rfl).trans ?_
      refine (mx_if (c := 0 ≤ v2) (p1 := 78) (l1 := [(0, mR 3 0 0), (1, mI v1), (2, mI v2), (3, mI v3), (4, mI s0)]) (s1 := [mI v3, mR 3 0 0]) (M1 := M) (p2 := 74) (l2 := [(0, mR 3 0 0), (1, mI v1), (2, mI v2), (3, mI v3), (4, mI s0)]) (s2 := [mI v3, mR 3 0 0]) (M2 := M) rfl).trans ?_
      refine mi_itc ?_ ?_
      · refine (mx_steps 1 (pc' := 79) (ls' := [(0, mR 3 0 0), (1, mI v1), (2, mI v2), (3, mI v3)]) (st' := [mI v2, mI v3, mR 3 0 0]) (M' := M) rfl).trans ?_
        rfl
      · refine (mx_steps 2 (pc' := 79) (ls' := [(0, mR 3 0 0), (1, mI v1), (2, mI v2), (3, mI v3)]) (st' := [mI 0, mI v3, mR 3 0 0]) (M' := M) rfl).trans ?_
        rfl

set_option maxRecDepth 20000 in
theorem fM_takes_L79_eq (v1 : Int32) (v2 : Int32) (v3 : Int32) (s1 : Int32) (s2 : Int32) (M : mM) : fM_takes_L79 v1 v2 v3 s1 s2 M = (fM_isAhead s1 s2 M).bind fun q1 => (if q1.1 = 0 then fM_takes_L6 v1 v2 (v3 + 1) q1.2 else fM_takes_L6 v1 v3 (v3 + 1) q1.2) := by
  refine (mx_callI (z := 94) (as := [mR 3 0 0, mI s1, mI s2]) (pc' := 82) (ls' := [(0, mR 3 0 0), (1, mI v1), (2, mI v2), (3, mI v3)]) (r := []) rfl (Or.inr rfl)).trans ?_
  refine mi_bdc fun q1 => ?_
  refine (mx_if (c := q1.1 = 0) (p1 := 89) (l1 := [(0, mR 3 0 0), (1, mI v1), (2, mI v2), (3, mI v3)]) (s1 := []) (M1 := q1.2) (p2 := 85) (l2 := [(0, mR 3 0 0), (1, mI v1), (2, mI v2), (3, mI v3)]) (s2 := []) (M2 := q1.2) rfl).trans ?_
  refine mi_itc ?_ ?_
  · refine (mx_steps 4 (pc' := 6) (ls' := [(0, mR 3 0 0), (1, mI v1), (2, mI v2), (3, mI (v3 + 1))]) (st' := []) (M' := q1.2) rfl).trans ?_
    rfl
  · refine (mx_steps 5 (pc' := 6) (ls' := [(0, mR 3 0 0), (1, mI v1), (2, mI v3), (3, mI (v3 + 1))]) (st' := []) (M' := q1.2) rfl).trans ?_
    rfl

set_option maxRecDepth 20000 in
theorem fM_look_eq (M : mM) : fM_look M = fM_look_L2 0 M := by
  refine (mx_steps 2 (pc' := 2) (ls' := [(0, mR 3 0 0), (1, mI 0)]) (st' := []) (M' := M) rfl).trans ?_
  rfl

set_option maxRecDepth 20000 in
theorem fM_look_L2_eq (v1 : Int32) (M : mM) : fM_look_L2 v1 M = (mi_ix 4 154).bind fun k1 => (if (M.1 30 0 (0 + k1)) ≤ v1 then fM_look_L79 0 0 M else (fM_takes v1 M).bind fun q2 => (mi_ix v1 6).bind fun k3 => fM_look_L25 v1 0 (mi_set q2.2 34 0 (0 + k3) q2.1)) := by
  refine (mx_steps 4 (pc' := 8) (ls' := [(0, mR 3 0 0), (1, mI v1)]) (st' := [mI 4, mR 30 0 0, mI v1]) (M' := M) rfl).trans ?_
  refine (mx_ix (i := 4) (n := 154) (pc' := 9) (ls' := [(0, mR 3 0 0), (1, mI v1)]) (sf := fun k1 => [mI (M.1 30 0 (0 + k1)), mI v1]) (Mf := fun k1 => M) rfl).trans ?_
  refine mi_bdc fun k1 => ?_
  refine (mx_if (c := (M.1 30 0 (0 + k1)) ≤ v1) (p1 := 75) (l1 := [(0, mR 3 0 0), (1, mI v1)]) (s1 := []) (M1 := M) (p2 := 12) (l2 := [(0, mR 3 0 0), (1, mI v1)]) (s2 := []) (M2 := M) rfl).trans ?_
  refine mi_itc ?_ ?_
  · refine (mx_steps 4 (pc' := 79) (ls' := [(0, mR 3 0 0), (1, mI 0), (2, mI 0)]) (st' := []) (M' := M) rfl).trans ?_
    rfl
  · refine (mx_steps 5 (pc' := 19) (ls' := [(0, mR 3 0 0), (1, mI v1)]) (st' := [mI v1, mR 3 0 0, mI v1, mR 34 0 0]) (M' := M) rfl).trans ?_
    refine (mx_callI (z := 95) (as := [mR 3 0 0, mI v1]) (pc' := 22) (ls' := [(0, mR 3 0 0), (1, mI v1)]) (r := [mI v1, mR 34 0 0]) rfl (Or.inl rfl)).trans ?_
    refine mi_bdc fun q2 => ?_
    refine (mx_ix (i := v1) (n := 6) (pc' := 23) (ls' := [(0, mR 3 0 0), (1, mI v1)]) (sf := fun k3 => []) (Mf := fun k3 => mi_set q2.2 34 0 (0 + k3) q2.1) rfl).trans ?_
    refine mi_bdc fun k3 => ?_
    refine (mx_steps 2 (pc' := 25) (ls' := [(0, mR 3 0 0), (1, mI v1), (2, mI 0)]) (st' := []) (M' := mi_set q2.2 34 0 (0 + k3) q2.1) rfl).trans ?_
    rfl

set_option maxRecDepth 20000 in
theorem fM_look_L79_eq (v1 : Int32) (v2 : Int32) (M : mM) : fM_look_L79 v1 v2 M = (mi_ix 4 154).bind fun k1 => (if (M.1 30 0 (0 + k1)) ≤ v2 then (if v1 = 0 ∨ v1 = 1 then some (v1, M) else none) else (fM_nodeAt v2 0 M).bind fun q2 => (fM_nodeAt v2 1 q2.2).bind fun q3 => (fM_nodeAt v2 2 q3.2).bind fun q4 => (fM_nodeAt v2 3 q4.2).bind fun q5 => (fM_begin v2 q5.2).bind fun M6 => fM_look_L128 v1 v2 q2.1 q3.1 q4.1 q5.1 0 M6) := by
  refine (mx_steps 4 (pc' := 85) (ls' := [(0, mR 3 0 0), (1, mI v1), (2, mI v2)]) (st' := [mI 4, mR 30 0 0, mI v2]) (M' := M) rfl).trans ?_
  refine (mx_ix (i := 4) (n := 154) (pc' := 86) (ls' := [(0, mR 3 0 0), (1, mI v1), (2, mI v2)]) (sf := fun k1 => [mI (M.1 30 0 (0 + k1)), mI v2]) (Mf := fun k1 => M) rfl).trans ?_
  refine mi_bdc fun k1 => ?_
  refine (mx_if (c := (M.1 30 0 (0 + k1)) ≤ v2) (p1 := 241) (l1 := [(0, mR 3 0 0), (1, mI v1), (2, mI v2)]) (s1 := []) (M1 := M) (p2 := 89) (l2 := [(0, mR 3 0 0), (1, mI v1), (2, mI v2)]) (s2 := []) (M2 := M) rfl).trans ?_
  refine mi_itc ?_ ?_
  · refine (mx_steps 1 (pc' := 242) (ls' := [(0, mR 3 0 0), (1, mI v1), (2, mI v2)]) (st' := [mI v1]) (M' := M) rfl).trans ?_
    exact mx_retb rfl rfl
  · refine (mx_steps 3 (pc' := 92) (ls' := [(0, mR 3 0 0), (1, mI v1), (2, mI v2)]) (st' := [mI 0, mI v2, mR 3 0 0]) (M' := M) rfl).trans ?_
    refine (mx_callI (z := 76) (as := [mR 3 0 0, mI v2, mI 0]) (pc' := 95) (ls' := [(0, mR 3 0 0), (1, mI v1), (2, mI v2)]) (r := []) rfl (Or.inl rfl)).trans ?_
    refine mi_bdc fun q2 => ?_
    refine (mx_steps 4 (pc' := 99) (ls' := [(0, mR 3 0 0), (1, mI v1), (2, mI v2), (3, mI q2.1)]) (st' := [mI 1, mI v2, mR 3 0 0]) (M' := q2.2) rfl).trans ?_
    refine (mx_callI (z := 76) (as := [mR 3 0 0, mI v2, mI 1]) (pc' := 102) (ls' := [(0, mR 3 0 0), (1, mI v1), (2, mI v2), (3, mI q2.1)]) (r := []) rfl (Or.inl rfl)).trans ?_
    refine mi_bdc fun q3 => ?_
    refine (mx_steps 4 (pc' := 107) (ls' := [(0, mR 3 0 0), (1, mI v1), (2, mI v2), (3, mI q2.1), (4, mI q3.1)]) (st' := [mI 2, mI v2, mR 3 0 0]) (M' := q3.2) rfl).trans ?_
    refine (mx_callI (z := 76) (as := [mR 3 0 0, mI v2, mI 2]) (pc' := 110) (ls' := [(0, mR 3 0 0), (1, mI v1), (2, mI v2), (3, mI q2.1), (4, mI q3.1)]) (r := []) rfl (Or.inl rfl)).trans ?_
    refine mi_bdc fun q4 => ?_
    refine (mx_steps 4 (pc' := 115) (ls' := [(0, mR 3 0 0), (1, mI v1), (2, mI v2), (3, mI q2.1), (4, mI q3.1), (5, mI q4.1)]) (st' := [mI 3, mI v2, mR 3 0 0]) (M' := q4.2) rfl).trans ?_
    refine (mx_callI (z := 76) (as := [mR 3 0 0, mI v2, mI 3]) (pc' := 118) (ls' := [(0, mR 3 0 0), (1, mI v1), (2, mI v2), (3, mI q2.1), (4, mI q3.1), (5, mI q4.1)]) (r := []) rfl (Or.inl rfl)).trans ?_
    refine mi_bdc fun q5 => ?_
    refine (mx_steps 3 (pc' := 122) (ls' := [(0, mR 3 0 0), (1, mI v1), (2, mI v2), (3, mI q2.1), (4, mI q3.1), (5, mI q4.1), (6, mI q5.1)]) (st' := [mI v2, mR 3 0 0]) (M' := q5.2) rfl).trans ?_
    refine (mx_callV (z := 81) (as := [mR 3 0 0, mI v2]) (pc' := 125) (ls' := [(0, mR 3 0 0), (1, mI v1), (2, mI v2), (3, mI q2.1), (4, mI q3.1), (5, mI q4.1), (6, mI q5.1)]) (r := []) rfl rfl).trans ?_
    refine mi_bdc fun M6 => ?_
    refine (mx_steps 2 (pc' := 128) (ls' := [(0, mR 3 0 0), (1, mI v1), (2, mI v2), (3, mI q2.1), (4, mI q3.1), (5, mI q4.1), (6, mI q5.1), (7, mI 0)]) (st' := []) (M' := M6) rfl).trans ?_
    rfl

set_option maxRecDepth 20000 in
theorem fM_look_L25_eq (v1 : Int32) (v2 : Int32) (M : mM) : fM_look_L25 v1 v2 M = (if 3 ≤ v2 then fM_look_L2 (v1 + 1) M else (mi_ix v1 6).bind fun k1 => (if (M.1 34 0 (0 + k1)) = ((-1001)) then fM_look_L2 (v1 + 1) M else (mi_ix v1 6).bind fun k2 => (fM_offerOf (M.1 34 0 (0 + k2)) v2 M).bind fun q3 => (mi_ix ((3 * v1) + v2) 30).bind fun k4 => fM_look_L25 v1 (v2 + 1) (mi_set q3.2 35 0 (0 + k4) q3.1))) := by
  refine (mx_steps 2 (pc' := 27) (ls' := [(0, mR 3 0 0), (1, mI v1), (2, mI v2)]) (st' := [mI 3, mI v2]) (M' := M) rfl).trans ?_
  refine (mx_if (c := 3 ≤ v2) (p1 := 69) (l1 := [(0, mR 3 0 0), (1, mI v1), (2, mI v2)]) (s1 := []) (M1 := M) (p2 := 30) (l2 := [(0, mR 3 0 0), (1, mI v1), (2, mI v2)]) (s2 := []) (M2 := M) rfl).trans ?_
  refine mi_itc ?_ ?_
  · refine (mx_steps 2 (pc' := 2) (ls' := [(0, mR 3 0 0), (1, mI (v1 + 1))]) (st' := []) (M' := M) rfl).trans ?_
    rfl
  · refine (mx_steps 3 (pc' := 35) (ls' := [(0, mR 3 0 0), (1, mI v1), (2, mI v2)]) (st' := [mI v1, mR 34 0 0]) (M' := M) rfl).trans ?_
    refine (mx_ix (i := v1) (n := 6) (pc' := 36) (ls' := [(0, mR 3 0 0), (1, mI v1), (2, mI v2)]) (sf := fun k1 => [mI (M.1 34 0 (0 + k1))]) (Mf := fun k1 => M) rfl).trans ?_
    refine mi_bdc fun k1 => ?_
    refine (mx_steps 1 (pc' := 39) (ls' := [(0, mR 3 0 0), (1, mI v1), (2, mI v2)]) (st' := [mI ((-1001)), mI (M.1 34 0 (0 + k1))]) (M' := M) rfl).trans ?_
    refine (mx_if (c := (M.1 34 0 (0 + k1)) = ((-1001))) (p1 := 69) (l1 := [(0, mR 3 0 0), (1, mI v1), (2, mI v2)]) (s1 := []) (M1 := M) (p2 := 42) (l2 := [(0, mR 3 0 0), (1, mI v1), (2, mI v2)]) (s2 := []) (M2 := M) rfl).trans ?_
    refine mi_itc ?_ ?_
    · refine (mx_steps 2 (pc' := 2) (ls' := [(0, mR 3 0 0), (1, mI (v1 + 1))]) (st' := []) (M' := M) rfl).trans ?_
      rfl
    · refine (mx_steps 11 (pc' := 57) (ls' := [(0, mR 3 0 0), (1, mI v1), (2, mI v2)]) (st' := [mI v1, mR 34 0 0, mR 3 0 0, mI ((3 * v1) + v2), mR 35 0 0]) (M' := M) rfl).trans ?_
      refine (mx_ix (i := v1) (n := 6) (pc' := 58) (ls' := [(0, mR 3 0 0), (1, mI v1), (2, mI v2)]) (sf := fun k2 => [mI (M.1 34 0 (0 + k2)), mR 3 0 0, mI ((3 * v1) + v2), mR 35 0 0]) (Mf := fun k2 => M) rfl).trans ?_
      refine mi_bdc fun k2 => ?_
      refine (mx_steps 1 (pc' := 59) (ls' := [(0, mR 3 0 0), (1, mI v1), (2, mI v2)]) (st' := [mI v2, mI (M.1 34 0 (0 + k2)), mR 3 0 0, mI ((3 * v1) + v2), mR 35 0 0]) (M' := M) rfl).trans ?_
      refine (mx_callI (z := 93) (as := [mR 3 0 0, mI (M.1 34 0 (0 + k2)), mI v2]) (pc' := 62) (ls' := [(0, mR 3 0 0), (1, mI v1), (2, mI v2)]) (r := [mI ((3 * v1) + v2), mR 35 0 0]) rfl (Or.inl rfl)).trans ?_
      refine mi_bdc fun q3 => ?_
      refine (mx_ix (i := (3 * v1) + v2) (n := 30) (pc' := 63) (ls' := [(0, mR 3 0 0), (1, mI v1), (2, mI v2)]) (sf := fun k4 => []) (Mf := fun k4 => mi_set q3.2 35 0 (0 + k4) q3.1) rfl).trans ?_
      refine mi_bdc fun k4 => ?_
      refine (mx_steps 2 (pc' := 25) (ls' := [(0, mR 3 0 0), (1, mI v1), (2, mI (v2 + 1))]) (st' := []) (M' := mi_set q3.2 35 0 (0 + k4) q3.1) rfl).trans ?_
      rfl

set_option maxRecDepth 20000 in
theorem fM_look_L128_eq (v1 : Int32) (v2 : Int32) (v3 : Int32) (v4 : Int32) (v5 : Int32) (v6 : Int32) (v7 : Int32) (M : mM) : fM_look_L128 v1 v2 v3 v4 v5 v6 v7 M = (if 3 ≤ v7 then fM_look_L170 v1 v2 v3 v4 v5 v6 M else (mi_ix v2 6).bind fun k1 => (if (M.1 34 0 (0 + k1)) = ((-1001)) then fM_look_L170 v1 v2 v3 v4 v5 v6 M else (mi_ix ((3 * v2) + v7) 30).bind fun k2 => (fM_putNode v2 v7 (M.1 35 0 (0 + k2)) M).bind fun M3 => fM_look_L128 v1 v2 v3 v4 v5 v6 (v7 + 1) M3)) := by
  refine (mx_steps 2 (pc' := 131) (ls' := [(0, mR 3 0 0), (1, mI v1), (2, mI v2), (3, mI v3), (4, mI v4), (5, mI v5), (6, mI v6), (7, mI v7)]) (st' := [mI 3, mI v7]) (M' := M) rfl).trans ?_
  refine (mx_if (c := 3 ≤ v7) (p1 := 170) (l1 := [(0, mR 3 0 0), (1, mI v1), (2, mI v2), (3, mI v3), (4, mI v4), (5, mI v5), (6, mI v6)]) (s1 := []) (M1 := M) (p2 := 134) (l2 := [(0, mR 3 0 0), (1, mI v1), (2, mI v2), (3, mI v3), (4, mI v4), (5, mI v5), (6, mI v6), (7, mI v7)]) (s2 := []) (M2 := M) rfl).trans ?_
  refine mi_itc ?_ ?_
  · rfl
  · refine (mx_steps 3 (pc' := 139) (ls' := [(0, mR 3 0 0), (1, mI v1), (2, mI v2), (3, mI v3), (4, mI v4), (5, mI v5), (6, mI v6), (7, mI v7)]) (st' := [mI v2, mR 34 0 0]) (M' := M) rfl).trans ?_
    refine (mx_ix (i := v2) (n := 6) (pc' := 140) (ls' := [(0, mR 3 0 0), (1, mI v1), (2, mI v2), (3, mI v3), (4, mI v4), (5, mI v5), (6, mI v6), (7, mI v7)]) (sf := fun k1 => [mI (M.1 34 0 (0 + k1))]) (Mf := fun k1 => M) rfl).trans ?_
    refine mi_bdc fun k1 => ?_
    refine (mx_steps 1 (pc' := 143) (ls' := [(0, mR 3 0 0), (1, mI v1), (2, mI v2), (3, mI v3), (4, mI v4), (5, mI v5), (6, mI v6), (7, mI v7)]) (st' := [mI ((-1001)), mI (M.1 34 0 (0 + k1))]) (M' := M) rfl).trans ?_
    refine (mx_if (c := (M.1 34 0 (0 + k1)) = ((-1001))) (p1 := 170) (l1 := [(0, mR 3 0 0), (1, mI v1), (2, mI v2), (3, mI v3), (4, mI v4), (5, mI v5), (6, mI v6)]) (s1 := []) (M1 := M) (p2 := 146) (l2 := [(0, mR 3 0 0), (1, mI v1), (2, mI v2), (3, mI v3), (4, mI v4), (5, mI v5), (6, mI v6), (7, mI v7)]) (s2 := []) (M2 := M) rfl).trans ?_
    refine mi_itc ?_ ?_
    · rfl
    · refine (mx_steps 10 (pc' := 160) (ls' := [(0, mR 3 0 0), (1, mI v1), (2, mI v2), (3, mI v3), (4, mI v4), (5, mI v5), (6, mI v6), (7, mI v7)]) (st' := [mI ((3 * v2) + v7), mR 35 0 0, mI v7, mI v2, mR 3 0 0]) (M' := M) rfl).trans ?_
      refine (mx_ix (i := (3 * v2) + v7) (n := 30) (pc' := 161) (ls' := [(0, mR 3 0 0), (1, mI v1), (2, mI v2), (3, mI v3), (4, mI v4), (5, mI v5), (6, mI v6), (7, mI v7)]) (sf := fun k2 => [mI (M.1 35 0 (0 + k2)), mI v7, mI v2, mR 3 0 0]) (Mf := fun k2 => M) rfl).trans ?_
      refine mi_bdc fun k2 => ?_
      refine (mx_callV (z := 77) (as := [mR 3 0 0, mI v2, mI v7, mI (M.1 35 0 (0 + k2))]) (pc' := 164) (ls' := [(0, mR 3 0 0), (1, mI v1), (2, mI v2), (3, mI v3), (4, mI v4), (5, mI v5), (6, mI v6), (7, mI v7)]) (r := []) rfl rfl).trans ?_
      refine mi_bdc fun M3 => ?_
      refine (mx_steps 2 (pc' := 128) (ls' := [(0, mR 3 0 0), (1, mI v1), (2, mI v2), (3, mI v3), (4, mI v4), (5, mI v5), (6, mI v6), (7, mI (v7 + 1))]) (st' := []) (M' := M3) rfl).trans ?_
      rfl

set_option maxRecDepth 20000 in
theorem fM_look_L170_eq (v1 : Int32) (v2 : Int32) (v3 : Int32) (v4 : Int32) (v5 : Int32) (v6 : Int32) (M : mM) : fM_look_L170 v1 v2 v3 v4 v5 v6 M = (mi_ix v2 6).bind fun k1 => (fM_putNode v2 3 (M.1 34 0 (0 + k1)) M).bind fun M2 => (if ¬ v1 = 0 then fM_look_L79 1 (v2 + 1) M2 else (fM_nodeAt v2 0 M2).bind fun q3 => (if ¬ v3 = q3.1 then fM_look_L79 1 (v2 + 1) q3.2 else (fM_nodeAt v2 1 q3.2).bind fun q4 => (if ¬ v4 = q4.1 then fM_look_L79 1 (v2 + 1) q4.2 else (fM_nodeAt v2 2 q4.2).bind fun q5 => (if ¬ v5 = q5.1 then fM_look_L79 1 (v2 + 1) q5.2 else (mi_ix v2 6).bind fun k6 => (if v6 = (q5.2.1 34 0 (0 + k6)) then fM_look_L79 0 (v2 + 1) q5.2 else fM_look_L79 1 (v2 + 1) q5.2))))) := by
  refine (mx_steps 6 (pc' := 178) (ls' := [(0, mR 3 0 0), (1, mI v1), (2, mI v2), (3, mI v3), (4, mI v4), (5, mI v5), (6, mI v6)]) (st' := [mI v2, mR 34 0 0, mI 3, mI v2, mR 3 0 0]) (M' := M) rfl).trans ?_
  refine (mx_ix (i := v2) (n := 6) (pc' := 179) (ls' := [(0, mR 3 0 0), (1, mI v1), (2, mI v2), (3, mI v3), (4, mI v4), (5, mI v5), (6, mI v6)]) (sf := fun k1 => [mI (M.1 34 0 (0 + k1)), mI 3, mI v2, mR 3 0 0]) (Mf := fun k1 => M) rfl).trans ?_
  refine mi_bdc fun k1 => ?_
  refine (mx_callV (z := 77) (as := [mR 3 0 0, mI v2, mI 3, mI (M.1 34 0 (0 + k1))]) (pc' := 182) (ls' := [(0, mR 3 0 0), (1, mI v1), (2, mI v2), (3, mI v3), (4, mI v4), (5, mI v5), (6, mI v6)]) (r := []) rfl rfl).trans ?_
  refine mi_bdc fun M2 => ?_
  refine (mx_steps 1 (pc' := 183) (ls' := [(0, mR 3 0 0), (1, mI v1), (2, mI v2), (3, mI v3), (4, mI v4), (5, mI v5), (6, mI v6)]) (st' := [mI v1]) (M' := M2) rfl).trans ?_
  refine (mx_if (c := ¬ v1 = 0) (p1 := 229) (l1 := [(0, mR 3 0 0), (1, mI v1), (2, mI v2), (3, mI v3), (4, mI v4), (5, mI v5), (6, mI v6)]) (s1 := []) (M1 := M2) (p2 := 186) (l2 := [(0, mR 3 0 0), (1, mI v1), (2, mI v2), (3, mI v3), (4, mI v4), (5, mI v5), (6, mI v6)]) (s2 := []) (M2 := M2) rfl).trans ?_
  refine mi_itc ?_ ?_
  · refine (mx_steps 5 (pc' := 79) (ls' := [(0, mR 3 0 0), (1, mI 1), (2, mI (v2 + 1))]) (st' := []) (M' := M2) rfl).trans ?_
    rfl
  · refine (mx_steps 4 (pc' := 190) (ls' := [(0, mR 3 0 0), (1, mI v1), (2, mI v2), (3, mI v3), (4, mI v4), (5, mI v5), (6, mI v6)]) (st' := [mI 0, mI v2, mR 3 0 0, mI v3]) (M' := M2) rfl).trans ?_
    refine (mx_callI (z := 76) (as := [mR 3 0 0, mI v2, mI 0]) (pc' := 193) (ls' := [(0, mR 3 0 0), (1, mI v1), (2, mI v2), (3, mI v3), (4, mI v4), (5, mI v5), (6, mI v6)]) (r := [mI v3]) rfl (Or.inl rfl)).trans ?_
    refine mi_bdc fun q3 => ?_
    refine (mx_if (c := ¬ v3 = q3.1) (p1 := 229) (l1 := [(0, mR 3 0 0), (1, mI v1), (2, mI v2), (3, mI v3), (4, mI v4), (5, mI v5), (6, mI v6)]) (s1 := []) (M1 := q3.2) (p2 := 196) (l2 := [(0, mR 3 0 0), (1, mI v1), (2, mI v2), (3, mI v3), (4, mI v4), (5, mI v5), (6, mI v6)]) (s2 := []) (M2 := q3.2) rfl).trans ?_
    refine mi_itc ?_ ?_
    · refine (mx_steps 5 (pc' := 79) (ls' := [(0, mR 3 0 0), (1, mI 1), (2, mI (v2 + 1))]) (st' := []) (M' := q3.2) rfl).trans ?_
      rfl
    · refine (mx_steps 4 (pc' := 201) (ls' := [(0, mR 3 0 0), (1, mI v1), (2, mI v2), (3, mI v3), (4, mI v4), (5, mI v5), (6, mI v6)]) (st' := [mI 1, mI v2, mR 3 0 0, mI v4]) (M' := q3.2) rfl).trans ?_
      refine (mx_callI (z := 76) (as := [mR 3 0 0, mI v2, mI 1]) (pc' := 204) (ls' := [(0, mR 3 0 0), (1, mI v1), (2, mI v2), (3, mI v3), (4, mI v4), (5, mI v5), (6, mI v6)]) (r := [mI v4]) rfl (Or.inl rfl)).trans ?_
      refine mi_bdc fun q4 => ?_
      refine (mx_if (c := ¬ v4 = q4.1) (p1 := 229) (l1 := [(0, mR 3 0 0), (1, mI v1), (2, mI v2), (3, mI v3), (4, mI v4), (5, mI v5), (6, mI v6)]) (s1 := []) (M1 := q4.2) (p2 := 207) (l2 := [(0, mR 3 0 0), (1, mI v1), (2, mI v2), (3, mI v3), (4, mI v4), (5, mI v5), (6, mI v6)]) (s2 := []) (M2 := q4.2) rfl).trans ?_
      refine mi_itc ?_ ?_
      · refine (mx_steps 5 (pc' := 79) (ls' := [(0, mR 3 0 0), (1, mI 1), (2, mI (v2 + 1))]) (st' := []) (M' := q4.2) rfl).trans ?_
        rfl
      · refine (mx_steps 4 (pc' := 212) (ls' := [(0, mR 3 0 0), (1, mI v1), (2, mI v2), (3, mI v3), (4, mI v4), (5, mI v5), (6, mI v6)]) (st' := [mI 2, mI v2, mR 3 0 0, mI v5]) (M' := q4.2) rfl).trans ?_
        refine (mx_callI (z := 76) (as := [mR 3 0 0, mI v2, mI 2]) (pc' := 215) (ls' := [(0, mR 3 0 0), (1, mI v1), (2, mI v2), (3, mI v3), (4, mI v4), (5, mI v5), (6, mI v6)]) (r := [mI v5]) rfl (Or.inl rfl)).trans ?_
        refine mi_bdc fun q5 => ?_
        refine (mx_if (c := ¬ v5 = q5.1) (p1 := 229) (l1 := [(0, mR 3 0 0), (1, mI v1), (2, mI v2), (3, mI v3), (4, mI v4), (5, mI v5), (6, mI v6)]) (s1 := []) (M1 := q5.2) (p2 := 218) (l2 := [(0, mR 3 0 0), (1, mI v1), (2, mI v2), (3, mI v3), (4, mI v4), (5, mI v5), (6, mI v6)]) (s2 := []) (M2 := q5.2) rfl).trans ?_
        refine mi_itc ?_ ?_
        · refine (mx_steps 5 (pc' := 79) (ls' := [(0, mR 3 0 0), (1, mI 1), (2, mI (v2 + 1))]) (st' := []) (M' := q5.2) rfl).trans ?_
          rfl
        · refine (mx_steps 4 (pc' := 225) (ls' := [(0, mR 3 0 0), (1, mI v1), (2, mI v2), (3, mI v3), (4, mI v4), (5, mI v5), (6, mI v6)]) (st' := [mI v2, mR 34 0 0, mI v6]) (M' := q5.2) rfl).trans ?_
          refine (mx_ix (i := v2) (n := 6) (pc' := 226) (ls' := [(0, mR 3 0 0), (1, mI v1), (2, mI v2), (3, mI v3), (4, mI v4), (5, mI v5), (6, mI v6)]) (sf := fun k6 => [mI (q5.2.1 34 0 (0 + k6)), mI v6]) (Mf := fun k6 => q5.2) rfl).trans ?_
          refine mi_bdc fun k6 => ?_
          refine (mx_if (c := v6 = (q5.2.1 34 0 (0 + k6))) (p1 := 233) (l1 := [(0, mR 3 0 0), (1, mI v1), (2, mI v2), (3, mI v3), (4, mI v4), (5, mI v5), (6, mI v6)]) (s1 := []) (M1 := q5.2) (p2 := 229) (l2 := [(0, mR 3 0 0), (1, mI v1), (2, mI v2), (3, mI v3), (4, mI v4), (5, mI v5), (6, mI v6)]) (s2 := []) (M2 := q5.2) rfl).trans ?_
          refine mi_itc ?_ ?_
          · refine (mx_steps 4 (pc' := 79) (ls' := [(0, mR 3 0 0), (1, mI 0), (2, mI (v2 + 1))]) (st' := []) (M' := q5.2) rfl).trans ?_
            rfl
          · refine (mx_steps 5 (pc' := 79) (ls' := [(0, mR 3 0 0), (1, mI 1), (2, mI (v2 + 1))]) (st' := []) (M' := q5.2) rfl).trans ?_
            rfl

set_option maxRecDepth 20000 in
theorem fM_referred_eq (M : mM) : fM_referred M = fM_referred_L4 0 0 M := by
  refine (mx_steps 4 (pc' := 4) (ls' := [(0, mR 3 0 0), (1, mI 0), (2, mI 0)]) (st' := []) (M' := M) rfl).trans ?_
  rfl

set_option maxRecDepth 20000 in
theorem fM_referred_L4_eq (v1 : Int32) (v2 : Int32) (M : mM) : fM_referred_L4 v1 v2 M = (mi_ix 4 154).bind fun k1 => (if (M.1 30 0 (0 + k1)) ≤ v2 then some (v1, M) else (fM_nodeAt v2 3 M).bind fun q2 => (if ¬ q2.1 = ((-1001)) then fM_referred_L4 (v1 + 1) (v2 + 1) q2.2 else fM_referred_L4 (v1 + 0) (v2 + 1) q2.2)) := by
  refine (mx_steps 4 (pc' := 10) (ls' := [(0, mR 3 0 0), (1, mI v1), (2, mI v2)]) (st' := [mI 4, mR 30 0 0, mI v2]) (M' := M) rfl).trans ?_
  refine (mx_ix (i := 4) (n := 154) (pc' := 11) (ls' := [(0, mR 3 0 0), (1, mI v1), (2, mI v2)]) (sf := fun k1 => [mI (M.1 30 0 (0 + k1)), mI v2]) (Mf := fun k1 => M) rfl).trans ?_
  refine mi_bdc fun k1 => ?_
  refine (mx_if (c := (M.1 30 0 (0 + k1)) ≤ v2) (p1 := 40) (l1 := [(0, mR 3 0 0), (1, mI v1), (2, mI v2)]) (s1 := []) (M1 := M) (p2 := 14) (l2 := [(0, mR 3 0 0), (1, mI v1), (2, mI v2)]) (s2 := []) (M2 := M) rfl).trans ?_
  refine mi_itc ?_ ?_
  · refine (mx_steps 1 (pc' := 41) (ls' := [(0, mR 3 0 0), (1, mI v1), (2, mI v2)]) (st' := [mI v1]) (M' := M) rfl).trans ?_
    exact mx_ret rfl rfl
  · refine (mx_steps 4 (pc' := 18) (ls' := [(0, mR 3 0 0), (1, mI v1), (2, mI v2)]) (st' := [mI 3, mI v2, mR 3 0 0, mI v1]) (M' := M) rfl).trans ?_
    refine (mx_callI (z := 76) (as := [mR 3 0 0, mI v2, mI 3]) (pc' := 21) (ls' := [(0, mR 3 0 0), (1, mI v1), (2, mI v2)]) (r := [mI v1]) rfl (Or.inl rfl)).trans ?_
    refine mi_bdc fun q2 => ?_
    refine (mx_steps 1 (pc' := 24) (ls' := [(0, mR 3 0 0), (1, mI v1), (2, mI v2)]) (st' := [mI ((-1001)), mI q2.1, mI v1]) (M' := q2.2) rfl).trans ?_
    refine (mx_if (c := ¬ q2.1 = ((-1001))) (p1 := 31) (l1 := [(0, mR 3 0 0), (1, mI v1), (2, mI v2)]) (s1 := [mI v1]) (M1 := q2.2) (p2 := 27) (l2 := [(0, mR 3 0 0), (1, mI v1), (2, mI v2)]) (s2 := [mI v1]) (M2 := q2.2) rfl).trans ?_
    refine mi_itc ?_ ?_
    · refine (mx_steps 5 (pc' := 4) (ls' := [(0, mR 3 0 0), (1, mI (v1 + 1)), (2, mI (v2 + 1))]) (st' := []) (M' := q2.2) rfl).trans ?_
      rfl
    · refine (mx_steps 6 (pc' := 4) (ls' := [(0, mR 3 0 0), (1, mI (v1 + 0)), (2, mI (v2 + 1))]) (st' := []) (M' := q2.2) rfl).trans ?_
      rfl

set_option maxRecDepth 20000 in
theorem fM_doLooks_eq (a1 : Int32) (M : mM) : fM_doLooks a1 M = (fM_in a1 1 60 M).bind fun q1 => (if ¬ q1.1 = 0 then fM_doLooks_L16 a1 0 q1.2 else some ((-1002), q1.2)) := by
  refine (mx_steps 3 (pc' := 4) (ls' := [(0, mR 3 0 0), (1, mI a1)]) (st' := [mI 60, mI 1, mI a1]) (M' := M) rfl).trans ?_
  refine (mx_callI (z := 68) (as := [mI a1, mI 1, mI 60]) (pc' := 7) (ls' := [(0, mR 3 0 0), (1, mI a1)]) (r := []) rfl (Or.inr rfl)).trans ?_
  refine mi_bdc fun q1 => ?_
  refine (mx_if (c := ¬ q1.1 = 0) (p1 := 14) (l1 := [(0, mR 3 0 0), (1, mI a1)]) (s1 := []) (M1 := q1.2) (p2 := 10) (l2 := [(0, mR 3 0 0), (1, mI a1)]) (s2 := []) (M2 := q1.2) rfl).trans ?_
  refine mi_itc ?_ ?_
  · refine (mx_steps 2 (pc' := 16) (ls' := [(0, mR 3 0 0), (1, mI a1), (2, mI 0)]) (st' := []) (M' := q1.2) rfl).trans ?_
    rfl
  · refine (mx_steps 1 (pc' := 13) (ls' := [(0, mR 3 0 0), (1, mI a1)]) (st' := [mI ((-1002))]) (M' := q1.2) rfl).trans ?_
    exact mx_ret rfl rfl

set_option maxRecDepth 20000 in
theorem fM_doLooks_L16_eq (v1 : Int32) (v2 : Int32) (M : mM) : fM_doLooks_L16 v1 v2 M = (if v1 ≤ v2 then (fM_referred M).bind fun q1 => some (q1.1, q1.2) else (fM_look M).bind fun q2 => fM_doLooks_L16 v1 (v2 + 1) q2.2) := by
  refine (mx_steps 2 (pc' := 18) (ls' := [(0, mR 3 0 0), (1, mI v1), (2, mI v2)]) (st' := [mI v1, mI v2]) (M' := M) rfl).trans ?_
  refine (mx_if (c := v1 ≤ v2) (p1 := 32) (l1 := [(0, mR 3 0 0), (1, mI v1), (2, mI v2)]) (s1 := []) (M1 := M) (p2 := 21) (l2 := [(0, mR 3 0 0), (1, mI v1), (2, mI v2)]) (s2 := []) (M2 := M) rfl).trans ?_
  refine mi_itc ?_ ?_
  · refine (mx_steps 1 (pc' := 33) (ls' := [(0, mR 3 0 0), (1, mI v1), (2, mI v2)]) (st' := [mR 3 0 0]) (M' := M) rfl).trans ?_
    refine (mx_callI (z := 97) (as := [mR 3 0 0]) (pc' := 36) (ls' := [(0, mR 3 0 0), (1, mI v1), (2, mI v2)]) (r := []) rfl (Or.inl rfl)).trans ?_
    refine mi_bdc fun q1 => ?_
    exact mx_ret rfl rfl
  · refine (mx_steps 1 (pc' := 22) (ls' := [(0, mR 3 0 0), (1, mI v1), (2, mI v2)]) (st' := [mR 3 0 0]) (M' := M) rfl).trans ?_
    refine (mx_callI (z := 96) (as := [mR 3 0 0]) (pc' := 25) (ls' := [(0, mR 3 0 0), (1, mI v1), (2, mI v2)]) (r := []) rfl (Or.inr rfl)).trans ?_
    refine mi_bdc fun q2 => ?_
    refine (mx_steps 3 (pc' := 16) (ls' := [(0, mR 3 0 0), (1, mI v1), (2, mI (v2 + 1))]) (st' := []) (M' := q2.2) rfl).trans ?_
    rfl

set_option maxRecDepth 20000 in
theorem fM_beats_eq (a1 : Int32) (M : mM) : fM_beats a1 M = (fM_nodeAt a1 6 M).bind fun q1 => (fM_nodeAt a1 2 q1.2).bind fun q2 => fM_beats_L18 a1 (q1.1 + q2.1) 8 q2.2 := by
  refine (mx_steps 3 (pc' := 4) (ls' := [(0, mR 3 0 0), (1, mI a1)]) (st' := [mI 6, mI a1, mR 3 0 0]) (M' := M) rfl).trans ?_
  refine (mx_callI (z := 76) (as := [mR 3 0 0, mI a1, mI 6]) (pc' := 7) (ls' := [(0, mR 3 0 0), (1, mI a1)]) (r := []) rfl (Or.inl rfl)).trans ?_
  refine mi_bdc fun q1 => ?_
  refine (mx_steps 3 (pc' := 10) (ls' := [(0, mR 3 0 0), (1, mI a1)]) (st' := [mI 2, mI a1, mR 3 0 0, mI q1.1]) (M' := q1.2) rfl).trans ?_
  refine (mx_callI (z := 76) (as := [mR 3 0 0, mI a1, mI 2]) (pc' := 13) (ls' := [(0, mR 3 0 0), (1, mI a1)]) (r := [mI q1.1]) rfl (Or.inl rfl)).trans ?_
  refine mi_bdc fun q2 => ?_
  refine (mx_steps 4 (pc' := 18) (ls' := [(0, mR 3 0 0), (1, mI a1), (2, mI (q1.1 + q2.1)), (3, mI 8)]) (st' := []) (M' := q2.2) rfl).trans ?_
  rfl

set_option maxRecDepth 20000 in
theorem fM_beats_L18_eq (v1 : Int32) (v2 : Int32) (v3 : Int32) (M : mM) : fM_beats_L18 v1 v2 v3 M = (if v2 < 100 then fM_beats_L33 v1 v2 v3 M else fM_beats_L18 v1 (v2 + (-100)) (v3 + 1) M) := by
  refine (mx_steps 2 (pc' := 21) (ls' := [(0, mR 3 0 0), (1, mI v1), (2, mI v2), (3, mI v3)]) (st' := [mI 100, mI v2]) (M' := M) rfl).trans ?_
  refine (mx_if (c := v2 < 100) (p1 := 33) (l1 := [(0, mR 3 0 0), (1, mI v1), (2, mI v2), (3, mI v3)]) (s1 := []) (M1 := M) (p2 := 24) (l2 := [(0, mR 3 0 0), (1, mI v1), (2, mI v2), (3, mI v3)]) (s2 := []) (M2 := M) rfl).trans ?_
  refine mi_itc ?_ ?_
  · rfl
  · refine (mx_steps 3 (pc' := 18) (ls' := [(0, mR 3 0 0), (1, mI v1), (2, mI (v2 + (-100))), (3, mI (v3 + 1))]) (st' := []) (M' := M) rfl).trans ?_
    rfl

set_option maxRecDepth 20000 in
theorem fM_beats_L33_eq (v1 : Int32) (v2 : Int32) (v3 : Int32) (M : mM) : fM_beats_L33 v1 v2 v3 M = (if ((-100)) < v2 then (fM_putNode v1 6 v2 M).bind fun M1 => (fM_putNode v1 7 v3 M1).bind fun M2 => some M2 else fM_beats_L33 v1 (v2 + 100) (v3 + (-1)) M) := by
  refine (mx_steps 2 (pc' := 36) (ls' := [(0, mR 3 0 0), (1, mI v1), (2, mI v2), (3, mI v3)]) (st' := [mI ((-100)), mI v2]) (M' := M) rfl).trans ?_
  refine (mx_if (c := ((-100)) < v2) (p1 := 48) (l1 := [(0, mR 3 0 0), (1, mI v1), (2, mI v2), (3, mI v3)]) (s1 := []) (M1 := M) (p2 := 39) (l2 := [(0, mR 3 0 0), (1, mI v1), (2, mI v2), (3, mI v3)]) (s2 := []) (M2 := M) rfl).trans ?_
  refine mi_itc ?_ ?_
  · refine (mx_steps 4 (pc' := 53) (ls' := [(0, mR 3 0 0), (1, mI v1), (2, mI v2), (3, mI v3)]) (st' := [mI v2, mI 6, mI v1, mR 3 0 0]) (M' := M) rfl).trans ?_
    refine (mx_callV (z := 77) (as := [mR 3 0 0, mI v1, mI 6, mI v2]) (pc' := 56) (ls' := [(0, mR 3 0 0), (1, mI v1), (2, mI v2), (3, mI v3)]) (r := []) rfl rfl).trans ?_
    refine mi_bdc fun M1 => ?_
    refine (mx_steps 4 (pc' := 61) (ls' := [(0, mR 3 0 0), (1, mI v1), (2, mI v2), (3, mI v3)]) (st' := [mI v3, mI 7, mI v1, mR 3 0 0]) (M' := M1) rfl).trans ?_
    refine (mx_callV (z := 77) (as := [mR 3 0 0, mI v1, mI 7, mI v3]) (pc' := 64) (ls' := [(0, mR 3 0 0), (1, mI v1), (2, mI v2), (3, mI v3)]) (r := []) rfl rfl).trans ?_
    refine mi_bdc fun M2 => ?_
    exact mx_ret rfl rfl
  · refine (mx_steps 3 (pc' := 33) (ls' := [(0, mR 3 0 0), (1, mI v1), (2, mI (v2 + 100)), (3, mI (v3 + (-1)))]) (st' := []) (M' := M) rfl).trans ?_
    rfl

set_option maxRecDepth 20000 in
theorem fM_slips_eq (a1 : Int32) (M : mM) : fM_slips a1 M = (mi_ix 0 154).bind fun k1 => (fM_linkAt a1 4 M).bind fun q2 => (fM_linkAt a1 0 q2.2).bind fun q3 => (fM_nodeAt q3.1 7 q3.2).bind fun q4 => (fM_linkAt a1 1 q4.2).bind fun q5 => (fM_nodeAt q5.1 7 q5.2).bind fun q6 => fM_slips_L43 a1 (M.1 30 0 (0 + k1)) ((q2.1 + q4.1) - q6.1) 0 q6.2 := by
  refine (mx_steps 3 (pc' := 5) (ls' := [(0, mR 3 0 0), (1, mI a1)]) (st' := [mI 0, mR 30 0 0]) (M' := M) rfl).trans ?_
  refine (mx_ix (i := 0) (n := 154) (pc' := 6) (ls' := [(0, mR 3 0 0), (1, mI a1)]) (sf := fun k1 => [mI (M.1 30 0 (0 + k1))]) (Mf := fun k1 => M) rfl).trans ?_
  refine mi_bdc fun k1 => ?_
  refine (mx_steps 4 (pc' := 10) (ls' := [(0, mR 3 0 0), (1, mI a1), (2, mI (M.1 30 0 (0 + k1)))]) (st' := [mI 4, mI a1, mR 3 0 0]) (M' := M) rfl).trans ?_
  refine (mx_callI (z := 78) (as := [mR 3 0 0, mI a1, mI 4]) (pc' := 13) (ls' := [(0, mR 3 0 0), (1, mI a1), (2, mI (M.1 30 0 (0 + k1)))]) (r := []) rfl (Or.inl rfl)).trans ?_
  refine mi_bdc fun q2 => ?_
  refine (mx_steps 4 (pc' := 17) (ls' := [(0, mR 3 0 0), (1, mI a1), (2, mI (M.1 30 0 (0 + k1)))]) (st' := [mI 0, mI a1, mR 3 0 0, mR 3 0 0, mI q2.1]) (M' := q2.2) rfl).trans ?_
  refine (mx_callI (z := 78) (as := [mR 3 0 0, mI a1, mI 0]) (pc' := 20) (ls' := [(0, mR 3 0 0), (1, mI a1), (2, mI (M.1 30 0 (0 + k1)))]) (r := [mR 3 0 0, mI q2.1]) rfl (Or.inl rfl)).trans ?_
  refine mi_bdc fun q3 => ?_
  refine (mx_steps 1 (pc' := 22) (ls' := [(0, mR 3 0 0), (1, mI a1), (2, mI (M.1 30 0 (0 + k1)))]) (st' := [mI 7, mI q3.1, mR 3 0 0, mI q2.1]) (M' := q3.2) rfl).trans ?_
  refine (mx_callI (z := 76) (as := [mR 3 0 0, mI q3.1, mI 7]) (pc' := 25) (ls' := [(0, mR 3 0 0), (1, mI a1), (2, mI (M.1 30 0 (0 + k1)))]) (r := [mI q2.1]) rfl (Or.inl rfl)).trans ?_
  refine mi_bdc fun q4 => ?_
  refine (mx_steps 5 (pc' := 30) (ls' := [(0, mR 3 0 0), (1, mI a1), (2, mI (M.1 30 0 (0 + k1)))]) (st' := [mI 1, mI a1, mR 3 0 0, mR 3 0 0, mI (q2.1 + q4.1)]) (M' := q4.2) rfl).trans ?_
  refine (mx_callI (z := 78) (as := [mR 3 0 0, mI a1, mI 1]) (pc' := 33) (ls' := [(0, mR 3 0 0), (1, mI a1), (2, mI (M.1 30 0 (0 + k1)))]) (r := [mR 3 0 0, mI (q2.1 + q4.1)]) rfl (Or.inl rfl)).trans ?_
  refine mi_bdc fun q5 => ?_
  refine (mx_steps 1 (pc' := 35) (ls' := [(0, mR 3 0 0), (1, mI a1), (2, mI (M.1 30 0 (0 + k1)))]) (st' := [mI 7, mI q5.1, mR 3 0 0, mI (q2.1 + q4.1)]) (M' := q5.2) rfl).trans ?_
  refine (mx_callI (z := 76) (as := [mR 3 0 0, mI q5.1, mI 7]) (pc' := 38) (ls' := [(0, mR 3 0 0), (1, mI a1), (2, mI (M.1 30 0 (0 + k1)))]) (r := [mI (q2.1 + q4.1)]) rfl (Or.inl rfl)).trans ?_
  refine mi_bdc fun q6 => ?_
  refine (mx_steps 4 (pc' := 43) (ls' := [(0, mR 3 0 0), (1, mI a1), (2, mI (M.1 30 0 (0 + k1))), (3, mI ((q2.1 + q4.1) - q6.1)), (4, mI 0)]) (st' := []) (M' := q6.2) rfl).trans ?_
  rfl

set_option maxRecDepth 20000 in
theorem fM_slips_L43_eq (v1 : Int32) (v2 : Int32) (v3 : Int32) (v4 : Int32) (M : mM) : fM_slips_L43 v1 v2 v3 v4 M = (if v3 ≤ (2 * v2) then fM_slips_L74 v1 v2 v3 v4 M else (fM_linkAt v1 5 M).bind fun q1 => (fM_putLink v1 5 (q1.1 + 1) q1.2).bind fun M2 => fM_slips_L43 v1 v2 (v3 - v2) (v4 + 1) M2) := by
  refine (mx_steps 4 (pc' := 47) (ls' := [(0, mR 3 0 0), (1, mI v1), (2, mI v2), (3, mI v3), (4, mI v4)]) (st' := [mI (2 * v2), mI v3]) (M' := M) rfl).trans ?_
  refine (mx_if (c := v3 ≤ (2 * v2)) (p1 := 74) (l1 := [(0, mR 3 0 0), (1, mI v1), (2, mI v2), (3, mI v3), (4, mI v4)]) (s1 := []) (M1 := M) (p2 := 50) (l2 := [(0, mR 3 0 0), (1, mI v1), (2, mI v2), (3, mI v3), (4, mI v4)]) (s2 := []) (M2 := M) rfl).trans ?_
  refine mi_itc ?_ ?_
  · rfl
  · refine (mx_steps 10 (pc' := 60) (ls' := [(0, mR 3 0 0), (1, mI v1), (2, mI v2), (3, mI (v3 - v2)), (4, mI v4)]) (st' := [mI 5, mI v1, mR 3 0 0, mI 5, mI v1, mR 3 0 0]) (M' := M) rfl).trans ?_
    refine (mx_callI (z := 78) (as := [mR 3 0 0, mI v1, mI 5]) (pc' := 63) (ls' := [(0, mR 3 0 0), (1, mI v1), (2, mI v2), (3, mI (v3 - v2)), (4, mI v4)]) (r := [mI 5, mI v1, mR 3 0 0]) rfl (Or.inl rfl)).trans ?_
    refine mi_bdc fun q1 => ?_
    refine (mx_steps 2 (pc' := 65) (ls' := [(0, mR 3 0 0), (1, mI v1), (2, mI v2), (3, mI (v3 - v2)), (4, mI v4)]) (st' := [mI (q1.1 + 1), mI 5, mI v1, mR 3 0 0]) (M' := q1.2) rfl).trans ?_
    refine (mx_callV (z := 79) (as := [mR 3 0 0, mI v1, mI 5, mI (q1.1 + 1)]) (pc' := 68) (ls' := [(0, mR 3 0 0), (1, mI v1), (2, mI v2), (3, mI (v3 - v2)), (4, mI v4)]) (r := []) rfl rfl).trans ?_
    refine mi_bdc fun M2 => ?_
    refine (mx_steps 2 (pc' := 43) (ls' := [(0, mR 3 0 0), (1, mI v1), (2, mI v2), (3, mI (v3 - v2)), (4, mI (v4 + 1))]) (st' := []) (M' := M2) rfl).trans ?_
    rfl

set_option maxRecDepth 20000 in
theorem fM_slips_L74_eq (v1 : Int32) (v2 : Int32) (v3 : Int32) (v4 : Int32) (M : mM) : fM_slips_L74 v1 v2 v3 v4 M = (if 0 ≤ v3 then (fM_putLink v1 4 v3 M).bind fun M1 => (fM_linkAt v1 7 M1).bind fun q2 => (if q2.1 ≤ v3 then (fM_linkAt v1 7 q2.2).bind fun q3 => fM_slips_L137 v1 v2 v3 v4 v1 7 q3.1 q3.2 else fM_slips_L137 v1 v2 v3 v4 v1 7 v3 q2.2) else (fM_linkAt v1 6 M).bind fun q4 => (fM_putLink v1 6 (q4.1 + 1) q4.2).bind fun M5 => fM_slips_L74 v1 v2 (v3 + v2) (v4 + 1) M5) := by
  refine (mx_steps 1 (pc' := 75) (ls' := [(0, mR 3 0 0), (1, mI v1), (2, mI v2), (3, mI v3), (4, mI v4)]) (st' := [mI v3]) (M' := M) rfl).trans ?_
  refine (mx_if (c := 0 ≤ v3) (p1 := 104) (l1 := [(0, mR 3 0 0), (1, mI v1), (2, mI v2), (3, mI v3), (4, mI v4)]) (s1 := []) (M1 := M) (p2 := 78) (l2 := [(0, mR 3 0 0), (1, mI v1), (2, mI v2), (3, mI v3), (4, mI v4)]) (s2 := []) (M2 := M) rfl).trans ?_
  refine mi_itc ?_ ?_
  · refine (mx_steps 4 (pc' := 108) (ls' := [(0, mR 3 0 0), (1, mI v1), (2, mI v2), (3, mI v3), (4, mI v4)]) (st' := [mI v3, mI 4, mI v1, mR 3 0 0]) (M' := M) rfl).trans ?_
    refine (mx_callV (z := 79) (as := [mR 3 0 0, mI v1, mI 4, mI v3]) (pc' := 111) (ls' := [(0, mR 3 0 0), (1, mI v1), (2, mI v2), (3, mI v3), (4, mI v4)]) (r := []) rfl rfl).trans ?_
    refine mi_bdc fun M1 => ?_
    refine (mx_steps 7 (pc' := 120) (ls' := [(0, mR 3 0 0), (1, mI v1), (2, mI v2), (3, mI v3), (4, mI v4)]) (st' := [mI 7, mI v1, mR 3 0 0, mI v3, mI 7, mI v1, mR 3 0 0]) (M' := M1) rfl).trans ?_
    refine (mx_callI (z := 78) (as := [mR 3 0 0, mI v1, mI 7]) (pc' := 123) (ls' := [(0, mR 3 0 0), (1, mI v1), (2, mI v2), (3, mI v3), (4, mI v4)]) (r := [mI v3, mI 7, mI v1, mR 3 0 0]) rfl (Or.inl rfl)).trans ?_
    refine mi_bdc fun q2 => ?_
    refine (mx_if (c := q2.1 ≤ v3) (p1 := 130) (l1 := [(0, mR 3 0 0), (1, mI v1), (2, mI v2), (3, mI v3), (4, mI v4)]) (s1 := [mI 7, mI v1, mR 3 0 0]) (M1 := q2.2) (p2 := 126) (l2 := [(0, mR 3 0 0), (1, mI v1), (2, mI v2), (3, mI v3), (4, mI v4)]) (s2 := [mI 7, mI v1, mR 3 0 0]) (M2 := q2.2) rfl).trans ?_
    refine mi_itc ?_ ?_
    · refine (mx_steps 3 (pc' := 134) (ls' := [(0, mR 3 0 0), (1, mI v1), (2, mI v2), (3, mI v3), (4, mI v4)]) (st' := [mI 7, mI v1, mR 3 0 0, mI 7, mI v1, mR 3 0 0]) (M' := q2.2) rfl).trans ?_
      refine (mx_callI (z := 78) (as := [mR 3 0 0, mI v1, mI 7]) (pc' := 137) (ls' := [(0, mR 3 0 0), (1, mI v1), (2, mI v2), (3, mI v3), (4, mI v4)]) (r := [mI 7, mI v1, mR 3 0 0]) rfl (Or.inl rfl)).trans ?_
      refine mi_bdc fun q3 => ?_
      rfl
    · refine (mx_steps 2 (pc' := 137) (ls' := [(0, mR 3 0 0), (1, mI v1), (2, mI v2), (3, mI v3), (4, mI v4)]) (st' := [mI v3, mI 7, mI v1, mR 3 0 0]) (M' := q2.2) rfl).trans ?_
      rfl
  · refine (mx_steps 10 (pc' := 90) (ls' := [(0, mR 3 0 0), (1, mI v1), (2, mI v2), (3, mI (v3 + v2)), (4, mI v4)]) (st' := [mI 6, mI v1, mR 3 0 0, mI 6, mI v1, mR 3 0 0]) (M' := M) rfl).trans ?_
    refine (mx_callI (z := 78) (as := [mR 3 0 0, mI v1, mI 6]) (pc' := 93) (ls' := [(0, mR 3 0 0), (1, mI v1), (2, mI v2), (3, mI (v3 + v2)), (4, mI v4)]) (r := [mI 6, mI v1, mR 3 0 0]) rfl (Or.inl rfl)).trans ?_
    refine mi_bdc fun q4 => ?_
    refine (mx_steps 2 (pc' := 95) (ls' := [(0, mR 3 0 0), (1, mI v1), (2, mI v2), (3, mI (v3 + v2)), (4, mI v4)]) (st' := [mI (q4.1 + 1), mI 6, mI v1, mR 3 0 0]) (M' := q4.2) rfl).trans ?_
    refine (mx_callV (z := 79) (as := [mR 3 0 0, mI v1, mI 6, mI (q4.1 + 1)]) (pc' := 98) (ls' := [(0, mR 3 0 0), (1, mI v1), (2, mI v2), (3, mI (v3 + v2)), (4, mI v4)]) (r := []) rfl rfl).trans ?_
    refine mi_bdc fun M5 => ?_
    refine (mx_steps 2 (pc' := 74) (ls' := [(0, mR 3 0 0), (1, mI v1), (2, mI v2), (3, mI (v3 + v2)), (4, mI (v4 + 1))]) (st' := []) (M' := M5) rfl).trans ?_
    rfl

set_option maxRecDepth 20000 in
theorem fM_slips_L137_eq (v1 : Int32) (v2 : Int32) (v3 : Int32) (v4 : Int32) (s1 : Int32) (s2 : Int32) (s3 : Int32) (M : mM) : fM_slips_L137 v1 v2 v3 v4 s1 s2 s3 M = (fM_putLink s1 s2 s3 M).bind fun M1 => (fM_linkAt v1 8 M1).bind fun q2 => (if v3 ≤ q2.1 then (fM_linkAt v1 8 q2.2).bind fun q3 => fM_slips_L166 v1 v2 v3 v4 v1 8 q3.1 q3.2 else fM_slips_L166 v1 v2 v3 v4 v1 8 v3 q2.2) := by
  refine (mx_callV (z := 79) (as := [mR 3 0 0, mI s1, mI s2, mI s3]) (pc' := 140) (ls' := [(0, mR 3 0 0), (1, mI v1), (2, mI v2), (3, mI v3), (4, mI v4)]) (r := []) rfl rfl).trans ?_
  refine mi_bdc fun M1 => ?_
  refine (mx_steps 7 (pc' := 149) (ls' := [(0, mR 3 0 0), (1, mI v1), (2, mI v2), (3, mI v3), (4, mI v4)]) (st' := [mI 8, mI v1, mR 3 0 0, mI v3, mI 8, mI v1, mR 3 0 0]) (M' := M1) rfl).trans ?_
  refine (mx_callI (z := 78) (as := [mR 3 0 0, mI v1, mI 8]) (pc' := 152) (ls' := [(0, mR 3 0 0), (1, mI v1), (2, mI v2), (3, mI v3), (4, mI v4)]) (r := [mI v3, mI 8, mI v1, mR 3 0 0]) rfl (Or.inl rfl)).trans ?_
  refine mi_bdc fun q2 => ?_
  refine (mx_if (c := v3 ≤ q2.1) (p1 := 159) (l1 := [(0, mR 3 0 0), (1, mI v1), (2, mI v2), (3, mI v3), (4, mI v4)]) (s1 := [mI 8, mI v1, mR 3 0 0]) (M1 := q2.2) (p2 := 155) (l2 := [(0, mR 3 0 0), (1, mI v1), (2, mI v2), (3, mI v3), (4, mI v4)]) (s2 := [mI 8, mI v1, mR 3 0 0]) (M2 := q2.2) rfl).trans ?_
  refine mi_itc ?_ ?_
  · refine (mx_steps 3 (pc' := 163) (ls' := [(0, mR 3 0 0), (1, mI v1), (2, mI v2), (3, mI v3), (4, mI v4)]) (st' := [mI 8, mI v1, mR 3 0 0, mI 8, mI v1, mR 3 0 0]) (M' := q2.2) rfl).trans ?_
    refine (mx_callI (z := 78) (as := [mR 3 0 0, mI v1, mI 8]) (pc' := 166) (ls' := [(0, mR 3 0 0), (1, mI v1), (2, mI v2), (3, mI v3), (4, mI v4)]) (r := [mI 8, mI v1, mR 3 0 0]) rfl (Or.inl rfl)).trans ?_
    refine mi_bdc fun q3 => ?_
    rfl
  · refine (mx_steps 2 (pc' := 166) (ls' := [(0, mR 3 0 0), (1, mI v1), (2, mI v2), (3, mI v3), (4, mI v4)]) (st' := [mI v3, mI 8, mI v1, mR 3 0 0]) (M' := q2.2) rfl).trans ?_
    rfl

set_option maxRecDepth 20000 in
theorem fM_slips_L166_eq (v1 : Int32) (v2 : Int32) (v3 : Int32) (v4 : Int32) (s1 : Int32) (s2 : Int32) (s3 : Int32) (M : mM) : fM_slips_L166 v1 v2 v3 v4 s1 s2 s3 M = (fM_putLink s1 s2 s3 M).bind fun M1 => (if v3 ≤ v2 then fM_slips_L183 v1 v4 (v2 - v3) M1 else fM_slips_L183 v1 v4 (v3 - v2) M1) := by
  refine (mx_callV (z := 79) (as := [mR 3 0 0, mI s1, mI s2, mI s3]) (pc' := 169) (ls' := [(0, mR 3 0 0), (1, mI v1), (2, mI v2), (3, mI v3), (4, mI v4)]) (r := []) rfl rfl).trans ?_
  refine mi_bdc fun M1 => ?_
  refine (mx_steps 2 (pc' := 171) (ls' := [(0, mR 3 0 0), (1, mI v1), (2, mI v2), (3, mI v3), (4, mI v4)]) (st' := [mI v2, mI v3]) (M' := M1) rfl).trans ?_
  refine (mx_if (c := v3 ≤ v2) (p1 := 180) (l1 := [(0, mR 3 0 0), (1, mI v1), (2, mI v2), (3, mI v3), (4, mI v4)]) (s1 := []) (M1 := M1) (p2 := 174) (l2 := [(0, mR 3 0 0), (1, mI v1), (2, mI v2), (3, mI v3), (4, mI v4)]) (s2 := []) (M2 := M1) rfl).trans ?_
  refine mi_itc ?_ ?_
  · refine (mx_steps 3 (pc' := 183) (ls' := [(0, mR 3 0 0), (1, mI v1), (4, mI v4)]) (st' := [mI (v2 - v3)]) (M' := M1) rfl).trans ?_
    rfl
  · refine (mx_steps 4 (pc' := 183) (ls' := [(0, mR 3 0 0), (1, mI v1), (4, mI v4)]) (st' := [mI (v3 - v2)]) (M' := M1) rfl).trans ?_
    rfl

set_option maxRecDepth 20000 in
theorem fM_slips_L183_eq (v1 : Int32) (v4 : Int32) (s0 : Int32) (M : mM) : fM_slips_L183 v1 v4 s0 M = (fM_linkAt v1 9 M).bind fun q1 => (mi_ix 1 154).bind fun k2 => (if s0 ≤ (q1.2.1 30 0 (0 + k2)) then fM_slips_L212 v4 v1 9 q1.1 0 q1.2 else fM_slips_L212 v4 v1 9 q1.1 1 q1.2) := by
  refine (mx_steps 7 (pc' := 193) (ls' := [(0, mR 3 0 0), (1, mI v1), (4, mI v4), (5, mI s0)]) (st' := [mI 9, mI v1, mR 3 0 0, mI 9, mI v1, mR 3 0 0]) (M' := M) rfl).trans ?_
  refine (mx_callI (z := 78) (as := [mR 3 0 0, mI v1, mI 9]) (pc' := 196) (ls' := [(0, mR 3 0 0), (1, mI v1), (4, mI v4), (5, mI s0)]) (r := [mI 9, mI v1, mR 3 0 0]) rfl (Or.inl rfl)).trans ?_
  refine mi_bdc fun q1 => ?_
  refine (mx_steps 4 (pc' := 203) (ls' := [(0, mR 3 0 0), (1, mI v1), (4, mI v4), (5, mI s0)]) (st' := [mI 1, mR 30 0 0, mI s0, mI q1.1, mI 9, mI v1, mR 3 0 0]) (M' := q1.2) rfl).trans ?_
  refine (mx_ix (i := 1) (n := 154) (pc' := 204) (ls' := [(0, mR 3 0 0), (1, mI v1), (4, mI v4), (5, mI s0)]) (sf := fun k2 => [mI (q1.2.1 30 0 (0 + k2)), mI s0, mI q1.1, mI 9, mI v1, mR 3 0 0]) (Mf := fun k2 => q1.2) rfl).trans ?_
  refine mi_bdc fun k2 => ?_
  refine (mx_if (c := s0 ≤ (q1.2.1 30 0 (0 + k2))) (p1 := 211) (l1 := [(0, mR 3 0 0), (1, mI v1), (4, mI v4), (5, mI s0)]) (s1 := [mI q1.1, mI 9, mI v1, mR 3 0 0]) (M1 := q1.2) (p2 := 207) (l2 := [(0, mR 3 0 0), (1, mI v1), (4, mI v4), (5, mI s0)]) (s2 := [mI q1.1, mI 9, mI v1, mR 3 0 0]) (M2 := q1.2) rfl).trans ?_
  refine mi_itc ?_ ?_
  · refine (mx_steps 1 (pc' := 212) (ls' := [(4, mI v4)]) (st' := [mI 0, mI q1.1, mI 9, mI v1, mR 3 0 0]) (M' := q1.2) rfl).trans ?_
    rfl
  · refine (mx_steps 2 (pc' := 212) (ls' := [(4, mI v4)]) (st' := [mI 1, mI q1.1, mI 9, mI v1, mR 3 0 0]) (M' := q1.2) rfl).trans ?_
    rfl

set_option maxRecDepth 20000 in
theorem fM_slips_L212_eq (v4 : Int32) (s1 : Int32) (s2 : Int32) (s3 : Int32) (s4 : Int32) (M : mM) : fM_slips_L212 v4 s1 s2 s3 s4 M = (fM_putLink s1 s2 (s3 + s4) M).bind fun M1 => some (v4, M1) := by
  refine (mx_steps 1 (pc' := 213) (ls' := [(4, mI v4)]) (st' := [mI (s3 + s4), mI s2, mI s1, mR 3 0 0]) (M' := M) rfl).trans ?_
  refine (mx_callV (z := 79) (as := [mR 3 0 0, mI s1, mI s2, mI (s3 + s4)]) (pc' := 216) (ls' := [(4, mI v4)]) (r := []) rfl rfl).trans ?_
  refine mi_bdc fun M1 => ?_
  refine (mx_steps 1 (pc' := 218) (ls' := [(4, mI v4)]) (st' := [mI v4]) (M' := M1) rfl).trans ?_
  exact mx_ret rfl rfl

set_option maxRecDepth 20000 in
theorem fM_tick_eq (M : mM) : fM_tick M = fM_tick_L2 0 M := by
  refine (mx_steps 2 (pc' := 2) (ls' := [(0, mR 3 0 0), (1, mI 0)]) (st' := []) (M' := M) rfl).trans ?_
  rfl

set_option maxRecDepth 20000 in
theorem fM_tick_L2_eq (v1 : Int32) (M : mM) : fM_tick_L2 v1 M = (mi_ix 4 154).bind fun k1 => (if (M.1 30 0 (0 + k1)) ≤ v1 then fM_tick_L27 0 0 M else (fM_beats v1 M).bind fun M2 => fM_tick_L2 (v1 + 1) M2) := by
  refine (mx_steps 4 (pc' := 8) (ls' := [(0, mR 3 0 0), (1, mI v1)]) (st' := [mI 4, mR 30 0 0, mI v1]) (M' := M) rfl).trans ?_
  refine (mx_ix (i := 4) (n := 154) (pc' := 9) (ls' := [(0, mR 3 0 0), (1, mI v1)]) (sf := fun k1 => [mI (M.1 30 0 (0 + k1)), mI v1]) (Mf := fun k1 => M) rfl).trans ?_
  refine mi_bdc fun k1 => ?_
  refine (mx_if (c := (M.1 30 0 (0 + k1)) ≤ v1) (p1 := 23) (l1 := [(0, mR 3 0 0), (1, mI v1)]) (s1 := []) (M1 := M) (p2 := 12) (l2 := [(0, mR 3 0 0), (1, mI v1)]) (s2 := []) (M2 := M) rfl).trans ?_
  refine mi_itc ?_ ?_
  · refine (mx_steps 4 (pc' := 27) (ls' := [(0, mR 3 0 0), (1, mI 0), (2, mI 0)]) (st' := []) (M' := M) rfl).trans ?_
    rfl
  · refine (mx_steps 2 (pc' := 14) (ls' := [(0, mR 3 0 0), (1, mI v1)]) (st' := [mI v1, mR 3 0 0]) (M' := M) rfl).trans ?_
    refine (mx_callV (z := 99) (as := [mR 3 0 0, mI v1]) (pc' := 17) (ls' := [(0, mR 3 0 0), (1, mI v1)]) (r := []) rfl rfl).trans ?_
    refine mi_bdc fun M2 => ?_
    refine (mx_steps 2 (pc' := 2) (ls' := [(0, mR 3 0 0), (1, mI (v1 + 1))]) (st' := []) (M' := M2) rfl).trans ?_
    rfl

set_option maxRecDepth 20000 in
theorem fM_tick_L27_eq (v1 : Int32) (v2 : Int32) (M : mM) : fM_tick_L27 v1 v2 M = (mi_ix 5 154).bind fun k1 => (if (M.1 30 0 (0 + k1)) ≤ v2 then (mi_ix 3 154).bind fun k2 => (mi_ix 3 154).bind fun k3 => some (v1, mi_set M 30 0 (0 + k3) ((M.1 30 0 (0 + k2)) + 1)) else (fM_slips v2 M).bind fun q4 => fM_tick_L27 (v1 + q4.1) (v2 + 1) q4.2) := by
  refine (mx_steps 4 (pc' := 33) (ls' := [(0, mR 3 0 0), (1, mI v1), (2, mI v2)]) (st' := [mI 5, mR 30 0 0, mI v2]) (M' := M) rfl).trans ?_
  refine (mx_ix (i := 5) (n := 154) (pc' := 34) (ls' := [(0, mR 3 0 0), (1, mI v1), (2, mI v2)]) (sf := fun k1 => [mI (M.1 30 0 (0 + k1)), mI v2]) (Mf := fun k1 => M) rfl).trans ?_
  refine mi_bdc fun k1 => ?_
  refine (mx_if (c := (M.1 30 0 (0 + k1)) ≤ v2) (p1 := 51) (l1 := [(0, mR 3 0 0), (1, mI v1), (2, mI v2)]) (s1 := []) (M1 := M) (p2 := 37) (l2 := [(0, mR 3 0 0), (1, mI v1), (2, mI v2)]) (s2 := []) (M2 := M) rfl).trans ?_
  refine mi_itc ?_ ?_
  · refine (mx_steps 4 (pc' := 57) (ls' := [(0, mR 3 0 0), (1, mI v1), (2, mI v2)]) (st' := [mI 3, mR 30 0 0, mI 3, mR 30 0 0]) (M' := M) rfl).trans ?_
    refine (mx_ix (i := 3) (n := 154) (pc' := 58) (ls' := [(0, mR 3 0 0), (1, mI v1), (2, mI v2)]) (sf := fun k2 => [mI (M.1 30 0 (0 + k2)), mI 3, mR 30 0 0]) (Mf := fun k2 => M) rfl).trans ?_
    refine mi_bdc fun k2 => ?_
    refine (mx_steps 2 (pc' := 60) (ls' := [(0, mR 3 0 0), (1, mI v1), (2, mI v2)]) (st' := [mI ((M.1 30 0 (0 + k2)) + 1), mI 3, mR 30 0 0]) (M' := M) rfl).trans ?_
    refine (mx_ix (i := 3) (n := 154) (pc' := 61) (ls' := [(0, mR 3 0 0), (1, mI v1), (2, mI v2)]) (sf := fun k3 => []) (Mf := fun k3 => mi_set M 30 0 (0 + k3) ((M.1 30 0 (0 + k2)) + 1)) rfl).trans ?_
    refine mi_bdc fun k3 => ?_
    refine (mx_steps 1 (pc' := 62) (ls' := [(0, mR 3 0 0), (1, mI v1), (2, mI v2)]) (st' := [mI v1]) (M' := mi_set M 30 0 (0 + k3) ((M.1 30 0 (0 + k2)) + 1)) rfl).trans ?_
    exact mx_ret rfl rfl
  · refine (mx_steps 3 (pc' := 40) (ls' := [(0, mR 3 0 0), (1, mI v1), (2, mI v2)]) (st' := [mI v2, mR 3 0 0, mI v1]) (M' := M) rfl).trans ?_
    refine (mx_callI (z := 100) (as := [mR 3 0 0, mI v2]) (pc' := 43) (ls' := [(0, mR 3 0 0), (1, mI v1), (2, mI v2)]) (r := [mI v1]) rfl (Or.inl rfl)).trans ?_
    refine mi_bdc fun q4 => ?_
    refine (mx_steps 4 (pc' := 27) (ls' := [(0, mR 3 0 0), (1, mI (v1 + q4.1)), (2, mI (v2 + 1))]) (st' := []) (M' := q4.2) rfl).trans ?_
    rfl

set_option maxRecDepth 20000 in
theorem fM_doTicks_eq (a1 : Int32) (M : mM) : fM_doTicks a1 M = (fM_in a1 1 200 M).bind fun q1 => (if ¬ q1.1 = 0 then fM_doTicks_L19 a1 0 0 q1.2 else some ((-1002), q1.2)) := by
  refine (mx_steps 3 (pc' := 5) (ls' := [(0, mR 3 0 0), (1, mI a1)]) (st' := [mI 200, mI 1, mI a1]) (M' := M) rfl).trans ?_
  refine (mx_callI (z := 68) (as := [mI a1, mI 1, mI 200]) (pc' := 8) (ls' := [(0, mR 3 0 0), (1, mI a1)]) (r := []) rfl (Or.inr rfl)).trans ?_
  refine mi_bdc fun q1 => ?_
  refine (mx_if (c := ¬ q1.1 = 0) (p1 := 15) (l1 := [(0, mR 3 0 0), (1, mI a1)]) (s1 := []) (M1 := q1.2) (p2 := 11) (l2 := [(0, mR 3 0 0), (1, mI a1)]) (s2 := []) (M2 := q1.2) rfl).trans ?_
  refine mi_itc ?_ ?_
  · refine (mx_steps 4 (pc' := 19) (ls' := [(0, mR 3 0 0), (1, mI a1), (2, mI 0), (3, mI 0)]) (st' := []) (M' := q1.2) rfl).trans ?_
    rfl
  · refine (mx_steps 1 (pc' := 14) (ls' := [(0, mR 3 0 0), (1, mI a1)]) (st' := [mI ((-1002))]) (M' := q1.2) rfl).trans ?_
    exact mx_ret rfl rfl

set_option maxRecDepth 20000 in
theorem fM_doTicks_L19_eq (v1 : Int32) (v2 : Int32) (v3 : Int32) (M : mM) : fM_doTicks_L19 v1 v2 v3 M = (if v1 ≤ v3 then some (v2, M) else (fM_tick M).bind fun q1 => fM_doTicks_L19 v1 (v2 + q1.1) (v3 + 1) q1.2) := by
  refine (mx_steps 2 (pc' := 21) (ls' := [(0, mR 3 0 0), (1, mI v1), (2, mI v2), (3, mI v3)]) (st' := [mI v1, mI v3]) (M' := M) rfl).trans ?_
  refine (mx_if (c := v1 ≤ v3) (p1 := 37) (l1 := [(0, mR 3 0 0), (1, mI v1), (2, mI v2), (3, mI v3)]) (s1 := []) (M1 := M) (p2 := 24) (l2 := [(0, mR 3 0 0), (1, mI v1), (2, mI v2), (3, mI v3)]) (s2 := []) (M2 := M) rfl).trans ?_
  refine mi_itc ?_ ?_
  · refine (mx_steps 1 (pc' := 38) (ls' := [(0, mR 3 0 0), (1, mI v1), (2, mI v2), (3, mI v3)]) (st' := [mI v2]) (M' := M) rfl).trans ?_
    exact mx_ret rfl rfl
  · refine (mx_steps 2 (pc' := 26) (ls' := [(0, mR 3 0 0), (1, mI v1), (2, mI v2), (3, mI v3)]) (st' := [mR 3 0 0, mI v2]) (M' := M) rfl).trans ?_
    refine (mx_callI (z := 101) (as := [mR 3 0 0]) (pc' := 29) (ls' := [(0, mR 3 0 0), (1, mI v1), (2, mI v2), (3, mI v3)]) (r := [mI v2]) rfl (Or.inl rfl)).trans ?_
    refine mi_bdc fun q1 => ?_
    refine (mx_steps 4 (pc' := 19) (ls' := [(0, mR 3 0 0), (1, mI v1), (2, mI (v2 + q1.1)), (3, mI (v3 + 1))]) (st' := []) (M' := q1.2) rfl).trans ?_
    rfl

set_option maxRecDepth 20000 in
theorem fM_node_eq (a1 : Int32) (a2 : Int32) (M : mM) : fM_node a1 a2 M = (fM_hold M).bind fun M1 => (fM_doNode a1 a2 M1).bind fun q2 => (fM_ends q2.1 q2.2).bind fun q3 => some (q3.1, q3.2) := by
  refine (mx_steps 1 (pc' := 1) (ls' := [(0, mR 3 0 0), (1, mI a1), (2, mI a2)]) (st' := [mR 3 0 0]) (M' := M) rfl).trans ?_
  refine (mx_callV (z := 70) (as := [mR 3 0 0]) (pc' := 4) (ls' := [(0, mR 3 0 0), (1, mI a1), (2, mI a2)]) (r := []) rfl rfl).trans ?_
  refine mi_bdc fun M1 => ?_
  refine (mx_steps 4 (pc' := 8) (ls' := [(0, mR 3 0 0), (1, mI a1), (2, mI a2)]) (st' := [mI a2, mI a1, mR 3 0 0, mR 3 0 0]) (M' := M1) rfl).trans ?_
  refine (mx_callI (z := 84) (as := [mR 3 0 0, mI a1, mI a2]) (pc' := 11) (ls' := [(0, mR 3 0 0), (1, mI a1), (2, mI a2)]) (r := [mR 3 0 0]) rfl (Or.inl rfl)).trans ?_
  refine mi_bdc fun q2 => ?_
  refine (mx_callI (z := 72) (as := [mR 3 0 0, mI q2.1]) (pc' := 14) (ls' := [(0, mR 3 0 0), (1, mI a1), (2, mI a2)]) (r := []) rfl (Or.inl rfl)).trans ?_
  refine mi_bdc fun q3 => ?_
  exact mx_ret rfl rfl

set_option maxRecDepth 20000 in
theorem fM_link_eq (a1 : Int32) (a2 : Int32) (a3 : Int32) (M : mM) : fM_link a1 a2 a3 M = (fM_hold M).bind fun M1 => (fM_doLink a1 a2 a3 M1).bind fun q2 => (fM_ends q2.1 q2.2).bind fun q3 => some (q3.1, q3.2) := by
  refine (mx_steps 1 (pc' := 1) (ls' := [(0, mR 3 0 0), (1, mI a1), (2, mI a2), (3, mI a3)]) (st' := [mR 3 0 0]) (M' := M) rfl).trans ?_
  refine (mx_callV (z := 70) (as := [mR 3 0 0]) (pc' := 4) (ls' := [(0, mR 3 0 0), (1, mI a1), (2, mI a2), (3, mI a3)]) (r := []) rfl rfl).trans ?_
  refine mi_bdc fun M1 => ?_
  refine (mx_steps 5 (pc' := 9) (ls' := [(0, mR 3 0 0), (1, mI a1), (2, mI a2), (3, mI a3)]) (st' := [mI a3, mI a2, mI a1, mR 3 0 0, mR 3 0 0]) (M' := M1) rfl).trans ?_
  refine (mx_callI (z := 87) (as := [mR 3 0 0, mI a1, mI a2, mI a3]) (pc' := 12) (ls' := [(0, mR 3 0 0), (1, mI a1), (2, mI a2), (3, mI a3)]) (r := [mR 3 0 0]) rfl (Or.inl rfl)).trans ?_
  refine mi_bdc fun q2 => ?_
  refine (mx_callI (z := 72) (as := [mR 3 0 0, mI q2.1]) (pc' := 15) (ls' := [(0, mR 3 0 0), (1, mI a1), (2, mI a2), (3, mI a3)]) (r := []) rfl (Or.inl rfl)).trans ?_
  refine mi_bdc fun q3 => ?_
  exact mx_ret rfl rfl

set_option maxRecDepth 20000 in
theorem fM_owns_eq (a1 : Int32) (a2 : Int32) (a3 : Int32) (M : mM) : fM_owns a1 a2 a3 M = (fM_hold M).bind fun M1 => (fM_doOwns a1 a2 a3 M1).bind fun q2 => (fM_ends q2.1 q2.2).bind fun q3 => some (q3.1, q3.2) := by
  refine (mx_steps 1 (pc' := 1) (ls' := [(0, mR 3 0 0), (1, mI a1), (2, mI a2), (3, mI a3)]) (st' := [mR 3 0 0]) (M' := M) rfl).trans ?_
  refine (mx_callV (z := 70) (as := [mR 3 0 0]) (pc' := 4) (ls' := [(0, mR 3 0 0), (1, mI a1), (2, mI a2), (3, mI a3)]) (r := []) rfl rfl).trans ?_
  refine mi_bdc fun M1 => ?_
  refine (mx_steps 5 (pc' := 9) (ls' := [(0, mR 3 0 0), (1, mI a1), (2, mI a2), (3, mI a3)]) (st' := [mI a3, mI a2, mI a1, mR 3 0 0, mR 3 0 0]) (M' := M1) rfl).trans ?_
  refine (mx_callI (z := 88) (as := [mR 3 0 0, mI a1, mI a2, mI a3]) (pc' := 12) (ls' := [(0, mR 3 0 0), (1, mI a1), (2, mI a2), (3, mI a3)]) (r := [mR 3 0 0]) rfl (Or.inl rfl)).trans ?_
  refine mi_bdc fun q2 => ?_
  refine (mx_callI (z := 72) (as := [mR 3 0 0, mI q2.1]) (pc' := 15) (ls' := [(0, mR 3 0 0), (1, mI a1), (2, mI a2), (3, mI a3)]) (r := []) rfl (Or.inl rfl)).trans ?_
  refine mi_bdc fun q3 => ?_
  exact mx_ret rfl rfl

set_option maxRecDepth 20000 in
theorem fM_turns_eq (a1 : Int32) (M : mM) : fM_turns a1 M = (fM_hold M).bind fun M1 => (fM_doTurns a1 M1).bind fun q2 => (fM_ends q2.1 q2.2).bind fun q3 => some (q3.1, q3.2) := by
  refine (mx_steps 1 (pc' := 1) (ls' := [(0, mR 3 0 0), (1, mI a1)]) (st' := [mR 3 0 0]) (M' := M) rfl).trans ?_
  refine (mx_callV (z := 70) (as := [mR 3 0 0]) (pc' := 4) (ls' := [(0, mR 3 0 0), (1, mI a1)]) (r := []) rfl rfl).trans ?_
  refine mi_bdc fun M1 => ?_
  refine (mx_steps 3 (pc' := 7) (ls' := [(0, mR 3 0 0), (1, mI a1)]) (st' := [mI a1, mR 3 0 0, mR 3 0 0]) (M' := M1) rfl).trans ?_
  refine (mx_callI (z := 89) (as := [mR 3 0 0, mI a1]) (pc' := 10) (ls' := [(0, mR 3 0 0), (1, mI a1)]) (r := [mR 3 0 0]) rfl (Or.inl rfl)).trans ?_
  refine mi_bdc fun q2 => ?_
  refine (mx_callI (z := 72) (as := [mR 3 0 0, mI q2.1]) (pc' := 13) (ls' := [(0, mR 3 0 0), (1, mI a1)]) (r := []) rfl (Or.inl rfl)).trans ?_
  refine mi_bdc fun q3 => ?_
  exact mx_ret rfl rfl

set_option maxRecDepth 20000 in
theorem fM_sets_eq (a1 : Int32) (a2 : Int32) (M : mM) : fM_sets a1 a2 M = (fM_hold M).bind fun M1 => (fM_doSets a1 a2 M1).bind fun q2 => (fM_ends q2.1 q2.2).bind fun q3 => some (q3.1, q3.2) := by
  refine (mx_steps 1 (pc' := 1) (ls' := [(0, mR 3 0 0), (1, mI a1), (2, mI a2)]) (st' := [mR 3 0 0]) (M' := M) rfl).trans ?_
  refine (mx_callV (z := 70) (as := [mR 3 0 0]) (pc' := 4) (ls' := [(0, mR 3 0 0), (1, mI a1), (2, mI a2)]) (r := []) rfl rfl).trans ?_
  refine mi_bdc fun M1 => ?_
  refine (mx_steps 4 (pc' := 8) (ls' := [(0, mR 3 0 0), (1, mI a1), (2, mI a2)]) (st' := [mI a2, mI a1, mR 3 0 0, mR 3 0 0]) (M' := M1) rfl).trans ?_
  refine (mx_callI (z := 90) (as := [mR 3 0 0, mI a1, mI a2]) (pc' := 11) (ls' := [(0, mR 3 0 0), (1, mI a1), (2, mI a2)]) (r := [mR 3 0 0]) rfl (Or.inl rfl)).trans ?_
  refine mi_bdc fun q2 => ?_
  refine (mx_callI (z := 72) (as := [mR 3 0 0, mI q2.1]) (pc' := 14) (ls' := [(0, mR 3 0 0), (1, mI a1), (2, mI a2)]) (r := []) rfl (Or.inl rfl)).trans ?_
  refine mi_bdc fun q3 => ?_
  exact mx_ret rfl rfl

set_option maxRecDepth 20000 in
theorem fM_clears_eq (a1 : Int32) (M : mM) : fM_clears a1 M = (fM_hold M).bind fun M1 => (fM_doClears a1 M1).bind fun q2 => (fM_ends q2.1 q2.2).bind fun q3 => some (q3.1, q3.2) := by
  refine (mx_steps 1 (pc' := 1) (ls' := [(0, mR 3 0 0), (1, mI a1)]) (st' := [mR 3 0 0]) (M' := M) rfl).trans ?_
  refine (mx_callV (z := 70) (as := [mR 3 0 0]) (pc' := 4) (ls' := [(0, mR 3 0 0), (1, mI a1)]) (r := []) rfl rfl).trans ?_
  refine mi_bdc fun M1 => ?_
  refine (mx_steps 3 (pc' := 7) (ls' := [(0, mR 3 0 0), (1, mI a1)]) (st' := [mI a1, mR 3 0 0, mR 3 0 0]) (M' := M1) rfl).trans ?_
  refine (mx_callI (z := 91) (as := [mR 3 0 0, mI a1]) (pc' := 10) (ls' := [(0, mR 3 0 0), (1, mI a1)]) (r := [mR 3 0 0]) rfl (Or.inl rfl)).trans ?_
  refine mi_bdc fun q2 => ?_
  refine (mx_callI (z := 72) (as := [mR 3 0 0, mI q2.1]) (pc' := 13) (ls' := [(0, mR 3 0 0), (1, mI a1)]) (r := []) rfl (Or.inl rfl)).trans ?_
  refine mi_bdc fun q3 => ?_
  exact mx_ret rfl rfl

set_option maxRecDepth 20000 in
theorem fM_looks_eq (a1 : Int32) (M : mM) : fM_looks a1 M = (fM_hold M).bind fun M1 => (fM_doLooks a1 M1).bind fun q2 => (fM_ends q2.1 q2.2).bind fun q3 => some (q3.1, q3.2) := by
  refine (mx_steps 1 (pc' := 1) (ls' := [(0, mR 3 0 0), (1, mI a1)]) (st' := [mR 3 0 0]) (M' := M) rfl).trans ?_
  refine (mx_callV (z := 70) (as := [mR 3 0 0]) (pc' := 4) (ls' := [(0, mR 3 0 0), (1, mI a1)]) (r := []) rfl rfl).trans ?_
  refine mi_bdc fun M1 => ?_
  refine (mx_steps 3 (pc' := 7) (ls' := [(0, mR 3 0 0), (1, mI a1)]) (st' := [mI a1, mR 3 0 0, mR 3 0 0]) (M' := M1) rfl).trans ?_
  refine (mx_callI (z := 98) (as := [mR 3 0 0, mI a1]) (pc' := 10) (ls' := [(0, mR 3 0 0), (1, mI a1)]) (r := [mR 3 0 0]) rfl (Or.inl rfl)).trans ?_
  refine mi_bdc fun q2 => ?_
  refine (mx_callI (z := 72) (as := [mR 3 0 0, mI q2.1]) (pc' := 13) (ls' := [(0, mR 3 0 0), (1, mI a1)]) (r := []) rfl (Or.inl rfl)).trans ?_
  refine mi_bdc fun q3 => ?_
  exact mx_ret rfl rfl

set_option maxRecDepth 20000 in
theorem fM_ticks_eq (a1 : Int32) (M : mM) : fM_ticks a1 M = (fM_hold M).bind fun M1 => (fM_doTicks a1 M1).bind fun q2 => (fM_ends q2.1 q2.2).bind fun q3 => some (q3.1, q3.2) := by
  refine (mx_steps 1 (pc' := 1) (ls' := [(0, mR 3 0 0), (1, mI a1)]) (st' := [mR 3 0 0]) (M' := M) rfl).trans ?_
  refine (mx_callV (z := 70) (as := [mR 3 0 0]) (pc' := 4) (ls' := [(0, mR 3 0 0), (1, mI a1)]) (r := []) rfl rfl).trans ?_
  refine mi_bdc fun M1 => ?_
  refine (mx_steps 3 (pc' := 7) (ls' := [(0, mR 3 0 0), (1, mI a1)]) (st' := [mI a1, mR 3 0 0, mR 3 0 0]) (M' := M1) rfl).trans ?_
  refine (mx_callI (z := 102) (as := [mR 3 0 0, mI a1]) (pc' := 10) (ls' := [(0, mR 3 0 0), (1, mI a1)]) (r := [mR 3 0 0]) rfl (Or.inl rfl)).trans ?_
  refine mi_bdc fun q2 => ?_
  refine (mx_callI (z := 72) (as := [mR 3 0 0, mI q2.1]) (pc' := 13) (ls' := [(0, mR 3 0 0), (1, mI a1)]) (r := []) rfl (Or.inl rfl)).trans ?_
  refine mi_bdc fun q3 => ?_
  exact mx_ret rfl rfl

set_option maxRecDepth 20000 in
theorem fM_of_eq (a1 : Int32) (a2 : Int32) (M : mM) : fM_of a1 a2 M = (fM_isNode a1 M).bind fun q1 => (if q1.1 = 0 then fM_of_L27 q1.2 else (fM_in a2 0 7 q1.2).bind fun q2 => (if q2.1 = 0 then fM_of_L27 q2.2 else (fM_nodeAt a1 a2 q2.2).bind fun q3 => some (q3.1, q3.2))) := by
  refine (mx_steps 2 (pc' := 2) (ls' := [(0, mR 3 0 0), (1, mI a1), (2, mI a2)]) (st' := [mI a1, mR 3 0 0]) (M' := M) rfl).trans ?_
  refine (mx_callI (z := 74) (as := [mR 3 0 0, mI a1]) (pc' := 5) (ls' := [(0, mR 3 0 0), (1, mI a1), (2, mI a2)]) (r := []) rfl (Or.inr rfl)).trans ?_
  refine mi_bdc fun q1 => ?_
  refine (mx_if (c := q1.1 = 0) (p1 := 27) (l1 := [(0, mR 3 0 0)]) (s1 := []) (M1 := q1.2) (p2 := 8) (l2 := [(0, mR 3 0 0), (1, mI a1), (2, mI a2)]) (s2 := []) (M2 := q1.2) rfl).trans ?_
  refine mi_itc ?_ ?_
  · rfl
  · refine (mx_steps 3 (pc' := 12) (ls' := [(0, mR 3 0 0), (1, mI a1), (2, mI a2)]) (st' := [mI 7, mI 0, mI a2]) (M' := q1.2) rfl).trans ?_
    refine (mx_callI (z := 68) (as := [mI a2, mI 0, mI 7]) (pc' := 15) (ls' := [(0, mR 3 0 0), (1, mI a1), (2, mI a2)]) (r := []) rfl (Or.inr rfl)).trans ?_
    refine mi_bdc fun q2 => ?_
    refine (mx_if (c := q2.1 = 0) (p1 := 27) (l1 := [(0, mR 3 0 0)]) (s1 := []) (M1 := q2.2) (p2 := 18) (l2 := [(0, mR 3 0 0), (1, mI a1), (2, mI a2)]) (s2 := []) (M2 := q2.2) rfl).trans ?_
    refine mi_itc ?_ ?_
    · rfl
    · refine (mx_steps 3 (pc' := 21) (ls' := [(0, mR 3 0 0), (1, mI a1), (2, mI a2)]) (st' := [mI a2, mI a1, mR 3 0 0]) (M' := q2.2) rfl).trans ?_
      refine (mx_callI (z := 76) (as := [mR 3 0 0, mI a1, mI a2]) (pc' := 24) (ls' := [(0, mR 3 0 0), (1, mI a1), (2, mI a2)]) (r := []) rfl (Or.inl rfl)).trans ?_
      refine mi_bdc fun q3 => ?_
      refine (mx_steps 1 (pc' := 34) (ls' := [(0, mR 3 0 0), (1, mI a1), (2, mI a2)]) (st' := [mI q3.1]) (M' := q3.2) rfl).trans ?_
      exact mx_ret rfl rfl

set_option maxRecDepth 20000 in
theorem fM_of_L27_eq (M : mM) : fM_of_L27 M = (fM_refuses ((-1002)) M).bind fun q1 => some (q1.1, q1.2) := by
  refine (mx_steps 2 (pc' := 31) (ls' := [(0, mR 3 0 0)]) (st' := [mI ((-1002)), mR 3 0 0]) (M' := M) rfl).trans ?_
  refine (mx_callI (z := 69) (as := [mR 3 0 0, mI ((-1002))]) (pc' := 34) (ls' := [(0, mR 3 0 0)]) (r := []) rfl (Or.inl rfl)).trans ?_
  refine mi_bdc fun q1 => ?_
  exact mx_ret rfl rfl

set_option maxRecDepth 20000 in
theorem fM_offersOf_eq (a1 : Int32) (a2 : Int32) (M : mM) : fM_offersOf a1 a2 M = (fM_isOffered a1 M).bind fun q1 => (if q1.1 = 0 then some ((-1001), q1.2) else (fM_offerOf a1 a2 q1.2).bind fun q2 => some (q2.1, q2.2)) := by
  refine (mx_steps 2 (pc' := 2) (ls' := [(0, mR 3 0 0), (1, mI a1), (2, mI a2)]) (st' := [mI a1, mR 3 0 0]) (M' := M) rfl).trans ?_
  refine (mx_callI (z := 92) (as := [mR 3 0 0, mI a1]) (pc' := 5) (ls' := [(0, mR 3 0 0), (1, mI a1), (2, mI a2)]) (r := []) rfl (Or.inr rfl)).trans ?_
  refine mi_bdc fun q1 => ?_
  refine (mx_if (c := q1.1 = 0) (p1 := 17) (l1 := [(0, mR 3 0 0), (1, mI a1), (2, mI a2)]) (s1 := []) (M1 := q1.2) (p2 := 8) (l2 := [(0, mR 3 0 0), (1, mI a1), (2, mI a2)]) (s2 := []) (M2 := q1.2) rfl).trans ?_
  refine mi_itc ?_ ?_
  · refine (mx_steps 1 (pc' := 20) (ls' := [(0, mR 3 0 0), (1, mI a1), (2, mI a2)]) (st' := [mI ((-1001))]) (M' := q1.2) rfl).trans ?_
    exact mx_ret rfl rfl
  · refine (mx_steps 3 (pc' := 11) (ls' := [(0, mR 3 0 0), (1, mI a1), (2, mI a2)]) (st' := [mI a2, mI a1, mR 3 0 0]) (M' := q1.2) rfl).trans ?_
    refine (mx_callI (z := 93) (as := [mR 3 0 0, mI a1, mI a2]) (pc' := 14) (ls' := [(0, mR 3 0 0), (1, mI a1), (2, mI a2)]) (r := []) rfl (Or.inl rfl)).trans ?_
    refine mi_bdc fun q2 => ?_
    refine (mx_steps 1 (pc' := 20) (ls' := [(0, mR 3 0 0), (1, mI a1), (2, mI a2)]) (st' := [mI q2.1]) (M' := q2.2) rfl).trans ?_
    exact mx_ret rfl rfl

set_option maxRecDepth 20000 in
theorem fM_offers_eq (a1 : Int32) (a2 : Int32) (M : mM) : fM_offers a1 a2 M = (fM_isLink a1 M).bind fun q1 => (if q1.1 = 0 then fM_offers_L26 q1.2 else (fM_in a2 0 2 q1.2).bind fun q2 => (if q2.1 = 0 then fM_offers_L26 q2.2 else (fM_offersOf a1 a2 q2.2).bind fun q3 => some (q3.1, q3.2))) := by
  refine (mx_steps 2 (pc' := 2) (ls' := [(0, mR 3 0 0), (1, mI a1), (2, mI a2)]) (st' := [mI a1, mR 3 0 0]) (M' := M) rfl).trans ?_
  refine (mx_callI (z := 75) (as := [mR 3 0 0, mI a1]) (pc' := 5) (ls' := [(0, mR 3 0 0), (1, mI a1), (2, mI a2)]) (r := []) rfl (Or.inr rfl)).trans ?_
  refine mi_bdc fun q1 => ?_
  refine (mx_if (c := q1.1 = 0) (p1 := 26) (l1 := [(0, mR 3 0 0)]) (s1 := []) (M1 := q1.2) (p2 := 8) (l2 := [(0, mR 3 0 0), (1, mI a1), (2, mI a2)]) (s2 := []) (M2 := q1.2) rfl).trans ?_
  refine mi_itc ?_ ?_
  · rfl
  · refine (mx_steps 3 (pc' := 11) (ls' := [(0, mR 3 0 0), (1, mI a1), (2, mI a2)]) (st' := [mI 2, mI 0, mI a2]) (M' := q1.2) rfl).trans ?_
    refine (mx_callI (z := 68) (as := [mI a2, mI 0, mI 2]) (pc' := 14) (ls' := [(0, mR 3 0 0), (1, mI a1), (2, mI a2)]) (r := []) rfl (Or.inr rfl)).trans ?_
    refine mi_bdc fun q2 => ?_
    refine (mx_if (c := q2.1 = 0) (p1 := 26) (l1 := [(0, mR 3 0 0)]) (s1 := []) (M1 := q2.2) (p2 := 17) (l2 := [(0, mR 3 0 0), (1, mI a1), (2, mI a2)]) (s2 := []) (M2 := q2.2) rfl).trans ?_
    refine mi_itc ?_ ?_
    · rfl
    · refine (mx_steps 3 (pc' := 20) (ls' := [(0, mR 3 0 0), (1, mI a1), (2, mI a2)]) (st' := [mI a2, mI a1, mR 3 0 0]) (M' := q2.2) rfl).trans ?_
      refine (mx_callI (z := 112) (as := [mR 3 0 0, mI a1, mI a2]) (pc' := 23) (ls' := [(0, mR 3 0 0), (1, mI a1), (2, mI a2)]) (r := []) rfl (Or.inl rfl)).trans ?_
      refine mi_bdc fun q3 => ?_
      refine (mx_steps 1 (pc' := 33) (ls' := [(0, mR 3 0 0), (1, mI a1), (2, mI a2)]) (st' := [mI q3.1]) (M' := q3.2) rfl).trans ?_
      exact mx_ret rfl rfl

set_option maxRecDepth 20000 in
theorem fM_offers_L26_eq (M : mM) : fM_offers_L26 M = (fM_refuses ((-1002)) M).bind fun q1 => some (q1.1, q1.2) := by
  refine (mx_steps 2 (pc' := 30) (ls' := [(0, mR 3 0 0)]) (st' := [mI ((-1002)), mR 3 0 0]) (M' := M) rfl).trans ?_
  refine (mx_callI (z := 69) (as := [mR 3 0 0, mI ((-1002))]) (pc' := 33) (ls' := [(0, mR 3 0 0)]) (r := []) rfl (Or.inl rfl)).trans ?_
  refine mi_bdc fun q1 => ?_
  exact mx_ret rfl rfl

set_option maxRecDepth 20000 in
theorem fM_would_eq (a1 : Int32) (M : mM) : fM_would a1 M = (fM_isNode a1 M).bind fun q1 => (if q1.1 = 0 then (fM_refuses ((-1002)) q1.2).bind fun q2 => some (q2.1, q2.2) else (fM_takes a1 q1.2).bind fun q3 => some (q3.1, q3.2)) := by
  refine (mx_steps 2 (pc' := 2) (ls' := [(0, mR 3 0 0), (1, mI a1)]) (st' := [mI a1, mR 3 0 0]) (M' := M) rfl).trans ?_
  refine (mx_callI (z := 74) (as := [mR 3 0 0, mI a1]) (pc' := 5) (ls' := [(0, mR 3 0 0), (1, mI a1)]) (r := []) rfl (Or.inr rfl)).trans ?_
  refine mi_bdc fun q1 => ?_
  refine (mx_if (c := q1.1 = 0) (p1 := 16) (l1 := [(0, mR 3 0 0), (1, mI a1)]) (s1 := []) (M1 := q1.2) (p2 := 8) (l2 := [(0, mR 3 0 0), (1, mI a1)]) (s2 := []) (M2 := q1.2) rfl).trans ?_
  refine mi_itc ?_ ?_
  · refine (mx_steps 2 (pc' := 20) (ls' := [(0, mR 3 0 0), (1, mI a1)]) (st' := [mI ((-1002)), mR 3 0 0]) (M' := q1.2) rfl).trans ?_
    refine (mx_callI (z := 69) (as := [mR 3 0 0, mI ((-1002))]) (pc' := 23) (ls' := [(0, mR 3 0 0), (1, mI a1)]) (r := []) rfl (Or.inl rfl)).trans ?_
    refine mi_bdc fun q2 => ?_
    exact mx_ret rfl rfl
  · refine (mx_steps 2 (pc' := 10) (ls' := [(0, mR 3 0 0), (1, mI a1)]) (st' := [mI a1, mR 3 0 0]) (M' := q1.2) rfl).trans ?_
    refine (mx_callI (z := 95) (as := [mR 3 0 0, mI a1]) (pc' := 13) (ls' := [(0, mR 3 0 0), (1, mI a1)]) (r := []) rfl (Or.inl rfl)).trans ?_
    refine mi_bdc fun q3 => ?_
    refine (mx_steps 1 (pc' := 23) (ls' := [(0, mR 3 0 0), (1, mI a1)]) (st' := [mI q3.1]) (M' := q3.2) rfl).trans ?_
    exact mx_ret rfl rfl

set_option maxRecDepth 20000 in
theorem fM_follow_eq (a1 : Int32) (M : mM) : fM_follow a1 M = fM_follow_L9 0 a1 (mi_set M 41 0 1 0) := by
  refine (mx_steps 7 (pc' := 9) (ls' := [(0, mR 3 0 0), (2, mI 0), (3, mI a1)]) (st' := []) (M' := mi_set M 41 0 1 0) rfl).trans ?_
  rfl

set_option maxRecDepth 20000 in
theorem fM_follow_L9_eq (v2 : Int32) (v3 : Int32) (M : mM) : fM_follow_L9 v2 v3 M = (if v3 = ((-1001)) then fM_follow_L59 v3 M else (if ¬ ((v2 >>> (v3 &&& 31)) &&& 1) = 0 then fM_follow_L59 v3 M else (mi_ix (M.1 41 0 1) 6).bind fun k1 => (fM_sourceOf v3 (mi_set (mi_set M 36 0 (0 + k1) v3) 41 0 1 (((mi_set M 36 0 (0 + k1) v3).1 41 0 1) + 1))).bind fun q2 => fM_follow_L9 (v2 ||| (1 <<< (v3 &&& 31))) q2.1 q2.2)) := by
  refine (mx_steps 2 (pc' := 13) (ls' := [(0, mR 3 0 0), (2, mI v2), (3, mI v3)]) (st' := [mI ((-1001)), mI v3]) (M' := M) rfl).trans ?_
  refine (mx_if (c := v3 = ((-1001))) (p1 := 59) (l1 := [(0, mR 3 0 0), (3, mI v3)]) (s1 := []) (M1 := M) (p2 := 16) (l2 := [(0, mR 3 0 0), (2, mI v2), (3, mI v3)]) (s2 := []) (M2 := M) rfl).trans ?_
  refine mi_itc ?_ ?_
  · rfl
  · refine (mx_steps 5 (pc' := 21) (ls' := [(0, mR 3 0 0), (2, mI v2), (3, mI v3)]) (st' := [mI ((v2 >>> (v3 &&& 31)) &&& 1)]) (M' := M) rfl).trans ?_
    refine (mx_if (c := ¬ ((v2 >>> (v3 &&& 31)) &&& 1) = 0) (p1 := 59) (l1 := [(0, mR 3 0 0), (3, mI v3)]) (s1 := []) (M1 := M) (p2 := 24) (l2 := [(0, mR 3 0 0), (2, mI v2), (3, mI v3)]) (s2 := []) (M2 := M) rfl).trans ?_
    refine mi_itc ?_ ?_
    · rfl
    · refine (mx_steps 5 (pc' := 33) (ls' := [(0, mR 3 0 0), (2, mI v2), (3, mI v3)]) (st' := [mI v3, mI (M.1 41 0 1), mR 36 0 0]) (M' := M) rfl).trans ?_
      refine (mx_ix (i := M.1 41 0 1) (n := 6) (pc' := 34) (ls' := [(0, mR 3 0 0), (2, mI v2), (3, mI v3)]) (sf := fun k1 => []) (Mf := fun k1 => mi_set M 36 0 (0 + k1) v3) rfl).trans ?_
      refine mi_bdc fun k1 => ?_
      refine (mx_steps 14 (pc' := 52) (ls' := [(0, mR 3 0 0), (2, mI (v2 ||| (1 <<< (v3 &&& 31)))), (3, mI v3)]) (st' := [mI v3, mR 3 0 0]) (M' := mi_set (mi_set M 36 0 (0 + k1) v3) 41 0 1 (((mi_set M 36 0 (0 + k1) v3).1 41 0 1) + 1)) rfl).trans ?_
      refine (mx_callI (z := 80) (as := [mR 3 0 0, mI v3]) (pc' := 55) (ls' := [(0, mR 3 0 0), (2, mI (v2 ||| (1 <<< (v3 &&& 31)))), (3, mI v3)]) (r := []) rfl (Or.inl rfl)).trans ?_
      refine mi_bdc fun q2 => ?_
      refine (mx_steps 2 (pc' := 9) (ls' := [(0, mR 3 0 0), (2, mI (v2 ||| (1 <<< (v3 &&& 31)))), (3, mI q2.1)]) (st' := []) (M' := q2.2) rfl).trans ?_
      rfl

set_option maxRecDepth 20000 in
theorem fM_follow_L59_eq (v3 : Int32) (M : mM) : fM_follow_L59 v3 M = (if v3 = ((-1001)) then some (mi_set M 41 0 2 0) else some (mi_set M 41 0 2 1)) := by
  refine (mx_steps 3 (pc' := 64) (ls' := [(0, mR 3 0 0), (3, mI v3)]) (st' := [mI ((-1001)), mI v3, mR 3 0 0]) (M' := M) rfl).trans ?_
  refine (mx_if (c := v3 = ((-1001))) (p1 := 71) (l1 := [(0, mR 3 0 0), (3, mI v3)]) (s1 := [mR 3 0 0]) (M1 := M) (p2 := 67) (l2 := [(0, mR 3 0 0), (3, mI v3)]) (s2 := [mR 3 0 0]) (M2 := M) rfl).trans ?_
  refine mi_itc ?_ ?_
  · refine (mx_steps 2 (pc' := 75) (ls' := [(0, mR 3 0 0), (3, mI v3)]) (st' := []) (M' := mi_set M 41 0 2 0) rfl).trans ?_
    exact mx_ret rfl rfl
  · refine (mx_steps 3 (pc' := 75) (ls' := [(0, mR 3 0 0), (3, mI v3)]) (st' := []) (M' := mi_set M 41 0 2 1) rfl).trans ?_
    exact mx_ret rfl rfl

set_option maxRecDepth 20000 in
theorem fM_chain_eq (a1 : Int32) (a2 : Int32) (M : mM) : fM_chain a1 a2 M = (fM_isNode a1 M).bind fun q1 => (if q1.1 = 0 then fM_chain_L12 q1.2 else (if 0 ≤ a2 then (fM_follow a1 q1.2).bind fun M2 => (if (M2.1 41 0 1) ≤ a2 then some ((-1001), M2) else (mi_ix a2 6).bind fun k3 => some (M2.1 36 0 (0 + k3), M2)) else fM_chain_L12 q1.2)) := by
  refine (mx_steps 2 (pc' := 2) (ls' := [(0, mR 3 0 0), (1, mI a1), (2, mI a2)]) (st' := [mI a1, mR 3 0 0]) (M' := M) rfl).trans ?_
  refine (mx_callI (z := 74) (as := [mR 3 0 0, mI a1]) (pc' := 5) (ls' := [(0, mR 3 0 0), (1, mI a1), (2, mI a2)]) (r := []) rfl (Or.inr rfl)).trans ?_
  refine mi_bdc fun q1 => ?_
  refine (mx_if (c := q1.1 = 0) (p1 := 12) (l1 := [(0, mR 3 0 0)]) (s1 := []) (M1 := q1.2) (p2 := 8) (l2 := [(0, mR 3 0 0), (1, mI a1), (2, mI a2)]) (s2 := []) (M2 := q1.2) rfl).trans ?_
  refine mi_itc ?_ ?_
  · rfl
  · refine (mx_steps 1 (pc' := 9) (ls' := [(0, mR 3 0 0), (1, mI a1), (2, mI a2)]) (st' := [mI a2]) (M' := q1.2) rfl).trans ?_
    refine (mx_if (c := 0 ≤ a2) (p1 := 20) (l1 := [(0, mR 3 0 0), (1, mI a1), (2, mI a2)]) (s1 := []) (M1 := q1.2) (p2 := 12) (l2 := [(0, mR 3 0 0)]) (s2 := []) (M2 := q1.2) rfl).trans ?_
    refine mi_itc ?_ ?_
    · refine (mx_steps 2 (pc' := 22) (ls' := [(0, mR 3 0 0), (1, mI a1), (2, mI a2)]) (st' := [mI a1, mR 3 0 0]) (M' := q1.2) rfl).trans ?_
      refine (mx_callV (z := 115) (as := [mR 3 0 0, mI a1]) (pc' := 25) (ls' := [(0, mR 3 0 0), (1, mI a1), (2, mI a2)]) (r := []) rfl rfl).trans ?_
      refine mi_bdc fun M2 => ?_
      refine (mx_steps 3 (pc' := 30) (ls' := [(0, mR 3 0 0), (1, mI a1), (2, mI a2)]) (st' := [mI (M2.1 41 0 1), mI a2]) (M' := M2) rfl).trans ?_
      refine (mx_if (c := (M2.1 41 0 1) ≤ a2) (p1 := 42) (l1 := [(0, mR 3 0 0), (1, mI a1), (2, mI a2)]) (s1 := []) (M1 := M2) (p2 := 33) (l2 := [(0, mR 3 0 0), (1, mI a1), (2, mI a2)]) (s2 := []) (M2 := M2) rfl).trans ?_
      refine mi_itc ?_ ?_
      · refine (mx_steps 1 (pc' := 45) (ls' := [(0, mR 3 0 0), (1, mI a1), (2, mI a2)]) (st' := [mI ((-1001))]) (M' := M2) rfl).trans ?_
        exact mx_ret rfl rfl
      · refine (mx_steps 3 (pc' := 38) (ls' := [(0, mR 3 0 0), (1, mI a1), (2, mI a2)]) (st' := [mI a2, mR 36 0 0]) (M' := M2) rfl).trans ?_
        refine (mx_ix (i := a2) (n := 6) (pc' := 39) (ls' := [(0, mR 3 0 0), (1, mI a1), (2, mI a2)]) (sf := fun k3 => [mI (M2.1 36 0 (0 + k3))]) (Mf := fun k3 => M2) rfl).trans ?_
        refine mi_bdc fun k3 => ?_
        refine (mx_steps 1 (pc' := 45) (ls' := [(0, mR 3 0 0), (1, mI a1), (2, mI a2)]) (st' := [mI (M2.1 36 0 (0 + k3))]) (M' := M2) rfl).trans ?_
        exact mx_ret rfl rfl
    · rfl

set_option maxRecDepth 20000 in
theorem fM_chain_L12_eq (M : mM) : fM_chain_L12 M = (fM_refuses ((-1002)) M).bind fun q1 => some (q1.1, q1.2) := by
  refine (mx_steps 2 (pc' := 16) (ls' := [(0, mR 3 0 0)]) (st' := [mI ((-1002)), mR 3 0 0]) (M' := M) rfl).trans ?_
  refine (mx_callI (z := 69) (as := [mR 3 0 0, mI ((-1002))]) (pc' := 19) (ls' := [(0, mR 3 0 0)]) (r := []) rfl (Or.inl rfl)).trans ?_
  refine mi_bdc fun q1 => ?_
  exact mx_ret rfl rfl

set_option maxRecDepth 20000 in
theorem fM_ringOf_eq (a1 : Int32) (M : mM) : fM_ringOf a1 M = (fM_follow a1 M).bind fun M1 => (if (M1.1 41 0 2) = 0 then some (0, M1) else some (1, M1)) := by
  refine (mx_steps 2 (pc' := 2) (ls' := [(0, mR 3 0 0), (1, mI a1)]) (st' := [mI a1, mR 3 0 0]) (M' := M) rfl).trans ?_
  refine (mx_callV (z := 115) (as := [mR 3 0 0, mI a1]) (pc' := 5) (ls' := [(0, mR 3 0 0), (1, mI a1)]) (r := []) rfl rfl).trans ?_
  refine mi_bdc fun M1 => ?_
  refine (mx_steps 2 (pc' := 9) (ls' := [(0, mR 3 0 0), (1, mI a1)]) (st' := [mI (M1.1 41 0 2)]) (M' := M1) rfl).trans ?_
  refine (mx_if (c := (M1.1 41 0 2) = 0) (p1 := 16) (l1 := [(0, mR 3 0 0), (1, mI a1)]) (s1 := []) (M1 := M1) (p2 := 12) (l2 := [(0, mR 3 0 0), (1, mI a1)]) (s2 := []) (M2 := M1) rfl).trans ?_
  refine mi_itc ?_ ?_
  · refine (mx_steps 1 (pc' := 17) (ls' := [(0, mR 3 0 0), (1, mI a1)]) (st' := [mI 0]) (M' := M1) rfl).trans ?_
    exact mx_ret rfl rfl
  · refine (mx_steps 2 (pc' := 17) (ls' := [(0, mR 3 0 0), (1, mI a1)]) (st' := [mI 1]) (M' := M1) rfl).trans ?_
    exact mx_ret rfl rfl

set_option maxRecDepth 20000 in
theorem fM_ring_eq (a1 : Int32) (M : mM) : fM_ring a1 M = (fM_isNode a1 M).bind fun q1 => (if q1.1 = 0 then (fM_refuses ((-1002)) q1.2).bind fun q2 => some (q2.1, q2.2) else (fM_ringOf a1 q1.2).bind fun q3 => some (q3.1, q3.2)) := by
  refine (mx_steps 2 (pc' := 2) (ls' := [(0, mR 3 0 0), (1, mI a1)]) (st' := [mI a1, mR 3 0 0]) (M' := M) rfl).trans ?_
  refine (mx_callI (z := 74) (as := [mR 3 0 0, mI a1]) (pc' := 5) (ls' := [(0, mR 3 0 0), (1, mI a1)]) (r := []) rfl (Or.inr rfl)).trans ?_
  refine mi_bdc fun q1 => ?_
  refine (mx_if (c := q1.1 = 0) (p1 := 16) (l1 := [(0, mR 3 0 0), (1, mI a1)]) (s1 := []) (M1 := q1.2) (p2 := 8) (l2 := [(0, mR 3 0 0), (1, mI a1)]) (s2 := []) (M2 := q1.2) rfl).trans ?_
  refine mi_itc ?_ ?_
  · refine (mx_steps 2 (pc' := 20) (ls' := [(0, mR 3 0 0), (1, mI a1)]) (st' := [mI ((-1002)), mR 3 0 0]) (M' := q1.2) rfl).trans ?_
    refine (mx_callI (z := 69) (as := [mR 3 0 0, mI ((-1002))]) (pc' := 23) (ls' := [(0, mR 3 0 0), (1, mI a1)]) (r := []) rfl (Or.inl rfl)).trans ?_
    refine mi_bdc fun q2 => ?_
    exact mx_ret rfl rfl
  · refine (mx_steps 2 (pc' := 10) (ls' := [(0, mR 3 0 0), (1, mI a1)]) (st' := [mI a1, mR 3 0 0]) (M' := q1.2) rfl).trans ?_
    refine (mx_callI (z := 117) (as := [mR 3 0 0, mI a1]) (pc' := 13) (ls' := [(0, mR 3 0 0), (1, mI a1)]) (r := []) rfl (Or.inl rfl)).trans ?_
    refine mi_bdc fun q3 => ?_
    refine (mx_steps 1 (pc' := 23) (ls' := [(0, mR 3 0 0), (1, mI a1)]) (st' := [mI q3.1]) (M' := q3.2) rfl).trans ?_
    exact mx_ret rfl rfl

set_option maxRecDepth 20000 in
theorem fM_lay_eq (M : mM) : fM_lay M = fM_lay_L2 0 M := by
  refine (mx_steps 2 (pc' := 2) (ls' := [(0, mR 3 0 0), (1, mI 0)]) (st' := []) (M' := M) rfl).trans ?_
  rfl

set_option maxRecDepth 20000 in
theorem fM_lay_L2_eq (v1 : Int32) (M : mM) : fM_lay_L2 v1 M = (if 154 ≤ v1 then some M else (mi_ix v1 154).bind fun k1 => (mi_ix v1 154).bind fun k2 => fM_lay_L2 (v1 + 1) (mi_set M 37 0 (0 + k2) (M.1 30 0 (0 + k1)))) := by
  refine (mx_steps 2 (pc' := 6) (ls' := [(0, mR 3 0 0), (1, mI v1)]) (st' := [mI 154, mI v1]) (M' := M) rfl).trans ?_
  refine (mx_if (c := 154 ≤ v1) (p1 := 27) (l1 := [(0, mR 3 0 0), (1, mI v1)]) (s1 := []) (M1 := M) (p2 := 9) (l2 := [(0, mR 3 0 0), (1, mI v1)]) (s2 := []) (M2 := M) rfl).trans ?_
  refine mi_itc ?_ ?_
  · exact mx_ret rfl rfl
  · refine (mx_steps 6 (pc' := 19) (ls' := [(0, mR 3 0 0), (1, mI v1)]) (st' := [mI v1, mR 30 0 0, mI v1, mR 37 0 0]) (M' := M) rfl).trans ?_
    refine (mx_ix (i := v1) (n := 154) (pc' := 20) (ls' := [(0, mR 3 0 0), (1, mI v1)]) (sf := fun k1 => [mI (M.1 30 0 (0 + k1)), mI v1, mR 37 0 0]) (Mf := fun k1 => M) rfl).trans ?_
    refine mi_bdc fun k1 => ?_
    refine (mx_ix (i := v1) (n := 154) (pc' := 21) (ls' := [(0, mR 3 0 0), (1, mI v1)]) (sf := fun k2 => []) (Mf := fun k2 => mi_set M 37 0 (0 + k2) (M.1 30 0 (0 + k1))) rfl).trans ?_
    refine mi_bdc fun k2 => ?_
    refine (mx_steps 2 (pc' := 2) (ls' := [(0, mR 3 0 0), (1, mI (v1 + 1))]) (st' := []) (M' := mi_set M 37 0 (0 + k2) (M.1 30 0 (0 + k1))) rfl).trans ?_
    rfl

set_option maxRecDepth 20000 in
theorem fM_take_eq (M : mM) : fM_take M = fM_take_L2 0 M := by
  refine (mx_steps 2 (pc' := 2) (ls' := [(0, mR 3 0 0), (1, mI 0)]) (st' := []) (M' := M) rfl).trans ?_
  rfl

set_option maxRecDepth 20000 in
theorem fM_take_L2_eq (v1 : Int32) (M : mM) : fM_take_L2 v1 M = (if 154 ≤ v1 then some M else (mi_ix v1 154).bind fun k1 => (mi_ix v1 154).bind fun k2 => fM_take_L2 (v1 + 1) (mi_set M 30 0 (0 + k2) (M.1 37 0 (0 + k1)))) := by
  refine (mx_steps 2 (pc' := 6) (ls' := [(0, mR 3 0 0), (1, mI v1)]) (st' := [mI 154, mI v1]) (M' := M) rfl).trans ?_
  refine (mx_if (c := 154 ≤ v1) (p1 := 27) (l1 := [(0, mR 3 0 0), (1, mI v1)]) (s1 := []) (M1 := M) (p2 := 9) (l2 := [(0, mR 3 0 0), (1, mI v1)]) (s2 := []) (M2 := M) rfl).trans ?_
  refine mi_itc ?_ ?_
  · exact mx_ret rfl rfl
  · refine (mx_steps 6 (pc' := 19) (ls' := [(0, mR 3 0 0), (1, mI v1)]) (st' := [mI v1, mR 37 0 0, mI v1, mR 30 0 0]) (M' := M) rfl).trans ?_
    refine (mx_ix (i := v1) (n := 154) (pc' := 20) (ls' := [(0, mR 3 0 0), (1, mI v1)]) (sf := fun k1 => [mI (M.1 37 0 (0 + k1)), mI v1, mR 30 0 0]) (Mf := fun k1 => M) rfl).trans ?_
    refine mi_bdc fun k1 => ?_
    refine (mx_ix (i := v1) (n := 154) (pc' := 21) (ls' := [(0, mR 3 0 0), (1, mI v1)]) (sf := fun k2 => []) (Mf := fun k2 => mi_set M 30 0 (0 + k2) (M.1 37 0 (0 + k1))) rfl).trans ?_
    refine mi_bdc fun k2 => ?_
    refine (mx_steps 2 (pc' := 2) (ls' := [(0, mR 3 0 0), (1, mI (v1 + 1))]) (st' := []) (M' := mi_set M 30 0 (0 + k2) (M.1 37 0 (0 + k1))) rfl).trans ?_
    rfl

set_option maxRecDepth 20000 in
theorem fM_settled_eq (M : mM) : fM_settled M = (fM_lay M).bind fun M1 => fM_settled_L10 ((-1001)) 0 M1 := by
  refine (mx_steps 1 (pc' := 1) (ls' := [(0, mR 3 0 0)]) (st' := [mR 3 0 0]) (M' := M) rfl).trans ?_
  refine (mx_callV (z := 119) (as := [mR 3 0 0]) (pc' := 4) (ls' := [(0, mR 3 0 0)]) (r := []) rfl rfl).trans ?_
  refine mi_bdc fun M1 => ?_
  refine (mx_steps 4 (pc' := 10) (ls' := [(0, mR 3 0 0), (1, mI ((-1001))), (2, mI 0)]) (st' := []) (M' := M1) rfl).trans ?_
  rfl

set_option maxRecDepth 20000 in
theorem fM_settled_L10_eq (v1 : Int32) (v2 : Int32) (M : mM) : fM_settled_L10 v1 v2 M = (if 30 < v2 then fM_settled_L44 v1 M else (if ¬ v1 = ((-1001)) then fM_settled_L44 v1 M else (fM_look M).bind fun q1 => (if q1.1 = 0 then fM_settled_L10 v2 (v2 + 1) q1.2 else fM_settled_L10 ((-1001)) (v2 + 1) q1.2))) := by
  refine (mx_steps 2 (pc' := 13) (ls' := [(0, mR 3 0 0), (1, mI v1), (2, mI v2)]) (st' := [mI 30, mI v2]) (M' := M) rfl).trans ?_
  refine (mx_if (c := 30 < v2) (p1 := 44) (l1 := [(0, mR 3 0 0), (1, mI v1)]) (s1 := []) (M1 := M) (p2 := 16) (l2 := [(0, mR 3 0 0), (1, mI v1), (2, mI v2)]) (s2 := []) (M2 := M) rfl).trans ?_
  refine mi_itc ?_ ?_
  · rfl
  · refine (mx_steps 2 (pc' := 20) (ls' := [(0, mR 3 0 0), (1, mI v1), (2, mI v2)]) (st' := [mI ((-1001)), mI v1]) (M' := M) rfl).trans ?_
    refine (mx_if (c := ¬ v1 = ((-1001))) (p1 := 44) (l1 := [(0, mR 3 0 0), (1, mI v1)]) (s1 := []) (M1 := M) (p2 := 23) (l2 := [(0, mR 3 0 0), (1, mI v1), (2, mI v2)]) (s2 := []) (M2 := M) rfl).trans ?_
    refine mi_itc ?_ ?_
    · rfl
    · refine (mx_steps 1 (pc' := 24) (ls' := [(0, mR 3 0 0), (1, mI v1), (2, mI v2)]) (st' := [mR 3 0 0]) (M' := M) rfl).trans ?_
      refine (mx_callI (z := 96) (as := [mR 3 0 0]) (pc' := 27) (ls' := [(0, mR 3 0 0), (1, mI v1), (2, mI v2)]) (r := []) rfl (Or.inr rfl)).trans ?_
      refine mi_bdc fun q1 => ?_
      refine (mx_if (c := q1.1 = 0) (p1 := 36) (l1 := [(0, mR 3 0 0), (1, mI v1), (2, mI v2)]) (s1 := []) (M1 := q1.2) (p2 := 30) (l2 := [(0, mR 3 0 0), (1, mI v1), (2, mI v2)]) (s2 := []) (M2 := q1.2) rfl).trans ?_
      refine mi_itc ?_ ?_
      · refine (mx_steps 4 (pc' := 10) (ls' := [(0, mR 3 0 0), (1, mI v2), (2, mI (v2 + 1))]) (st' := []) (M' := q1.2) rfl).trans ?_
        rfl
      · refine (mx_steps 5 (pc' := 10) (ls' := [(0, mR 3 0 0), (1, mI ((-1001))), (2, mI (v2 + 1))]) (st' := []) (M' := q1.2) rfl).trans ?_
        rfl

set_option maxRecDepth 20000 in
theorem fM_settled_L44_eq (v1 : Int32) (M : mM) : fM_settled_L44 v1 M = (fM_take M).bind fun M1 => some (v1, M1) := by
  refine (mx_steps 1 (pc' := 45) (ls' := [(0, mR 3 0 0), (1, mI v1)]) (st' := [mR 3 0 0]) (M' := M) rfl).trans ?_
  refine (mx_callV (z := 120) (as := [mR 3 0 0]) (pc' := 48) (ls' := [(0, mR 3 0 0), (1, mI v1)]) (r := []) rfl rfl).trans ?_
  refine mi_bdc fun M1 => ?_
  refine (mx_steps 1 (pc' := 49) (ls' := [(0, mR 3 0 0), (1, mI v1)]) (st' := [mI v1]) (M' := M1) rfl).trans ?_
  exact mx_ret rfl rfl

set_option maxRecDepth 20000 in
theorem fM_settles_eq (M : mM) : fM_settles M = (fM_settled M).bind fun q1 => some (q1.1, q1.2) := by
  refine (mx_steps 1 (pc' := 1) (ls' := [(0, mR 3 0 0)]) (st' := [mR 3 0 0]) (M' := M) rfl).trans ?_
  refine (mx_callI (z := 121) (as := [mR 3 0 0]) (pc' := 4) (ls' := [(0, mR 3 0 0)]) (r := []) rfl (Or.inl rfl)).trans ?_
  refine mi_bdc fun q1 => ?_
  exact mx_ret rfl rfl

set_option maxRecDepth 20000 in
theorem fM_about_eq (a1 : Int32) (a2 : Int32) (M : mM) : fM_about a1 a2 M = (fM_isLink a1 M).bind fun q1 => (if q1.1 = 0 then fM_about_L27 q1.2 else (fM_in a2 0 9 q1.2).bind fun q2 => (if q2.1 = 0 then fM_about_L27 q2.2 else (fM_linkAt a1 a2 q2.2).bind fun q3 => some (q3.1, q3.2))) := by
  refine (mx_steps 2 (pc' := 2) (ls' := [(0, mR 3 0 0), (1, mI a1), (2, mI a2)]) (st' := [mI a1, mR 3 0 0]) (M' := M) rfl).trans ?_
  refine (mx_callI (z := 75) (as := [mR 3 0 0, mI a1]) (pc' := 5) (ls' := [(0, mR 3 0 0), (1, mI a1), (2, mI a2)]) (r := []) rfl (Or.inr rfl)).trans ?_
  refine mi_bdc fun q1 => ?_
  refine (mx_if (c := q1.1 = 0) (p1 := 27) (l1 := [(0, mR 3 0 0)]) (s1 := []) (M1 := q1.2) (p2 := 8) (l2 := [(0, mR 3 0 0), (1, mI a1), (2, mI a2)]) (s2 := []) (M2 := q1.2) rfl).trans ?_
  refine mi_itc ?_ ?_
  · rfl
  · refine (mx_steps 3 (pc' := 12) (ls' := [(0, mR 3 0 0), (1, mI a1), (2, mI a2)]) (st' := [mI 9, mI 0, mI a2]) (M' := q1.2) rfl).trans ?_
    refine (mx_callI (z := 68) (as := [mI a2, mI 0, mI 9]) (pc' := 15) (ls' := [(0, mR 3 0 0), (1, mI a1), (2, mI a2)]) (r := []) rfl (Or.inr rfl)).trans ?_
    refine mi_bdc fun q2 => ?_
    refine (mx_if (c := q2.1 = 0) (p1 := 27) (l1 := [(0, mR 3 0 0)]) (s1 := []) (M1 := q2.2) (p2 := 18) (l2 := [(0, mR 3 0 0), (1, mI a1), (2, mI a2)]) (s2 := []) (M2 := q2.2) rfl).trans ?_
    refine mi_itc ?_ ?_
    · rfl
    · refine (mx_steps 3 (pc' := 21) (ls' := [(0, mR 3 0 0), (1, mI a1), (2, mI a2)]) (st' := [mI a2, mI a1, mR 3 0 0]) (M' := q2.2) rfl).trans ?_
      refine (mx_callI (z := 78) (as := [mR 3 0 0, mI a1, mI a2]) (pc' := 24) (ls' := [(0, mR 3 0 0), (1, mI a1), (2, mI a2)]) (r := []) rfl (Or.inl rfl)).trans ?_
      refine mi_bdc fun q3 => ?_
      refine (mx_steps 1 (pc' := 34) (ls' := [(0, mR 3 0 0), (1, mI a1), (2, mI a2)]) (st' := [mI q3.1]) (M' := q3.2) rfl).trans ?_
      exact mx_ret rfl rfl

set_option maxRecDepth 20000 in
theorem fM_about_L27_eq (M : mM) : fM_about_L27 M = (fM_refuses ((-1002)) M).bind fun q1 => some (q1.1, q1.2) := by
  refine (mx_steps 2 (pc' := 31) (ls' := [(0, mR 3 0 0)]) (st' := [mI ((-1002)), mR 3 0 0]) (M' := M) rfl).trans ?_
  refine (mx_callI (z := 69) (as := [mR 3 0 0, mI ((-1002))]) (pc' := 34) (ls' := [(0, mR 3 0 0)]) (r := []) rfl (Or.inl rfl)).trans ?_
  refine mi_bdc fun q1 => ?_
  exact mx_ret rfl rfl

set_option maxRecDepth 20000 in
theorem fM_till_eq (a1 : Int32) (M : mM) : fM_till a1 M = (fM_isLink a1 M).bind fun q1 => (if ¬ q1.1 = 0 then (fM_lay q1.2).bind fun M2 => (fM_linkAt a1 5 M2).bind fun q3 => (fM_linkAt a1 6 q3.2).bind fun q4 => fM_till_L42 a1 (q3.1 + q4.1) ((-1001)) 1 q4.2 else (fM_refuses ((-1002)) q1.2).bind fun q5 => some (q5.1, q5.2)) := by
  refine (mx_steps 2 (pc' := 2) (ls' := [(0, mR 3 0 0), (1, mI a1)]) (st' := [mI a1, mR 3 0 0]) (M' := M) rfl).trans ?_
  refine (mx_callI (z := 75) (as := [mR 3 0 0, mI a1]) (pc' := 5) (ls' := [(0, mR 3 0 0), (1, mI a1)]) (r := []) rfl (Or.inr rfl)).trans ?_
  refine mi_bdc fun q1 => ?_
  refine (mx_if (c := ¬ q1.1 = 0) (p1 := 16) (l1 := [(0, mR 3 0 0), (1, mI a1)]) (s1 := []) (M1 := q1.2) (p2 := 8) (l2 := [(0, mR 3 0 0), (1, mI a1)]) (s2 := []) (M2 := q1.2) rfl).trans ?_
  refine mi_itc ?_ ?_
  · refine (mx_steps 1 (pc' := 17) (ls' := [(0, mR 3 0 0), (1, mI a1)]) (st' := [mR 3 0 0]) (M' := q1.2) rfl).trans ?_
    refine (mx_callV (z := 119) (as := [mR 3 0 0]) (pc' := 20) (ls' := [(0, mR 3 0 0), (1, mI a1)]) (r := []) rfl rfl).trans ?_
    refine mi_bdc fun M2 => ?_
    refine (mx_steps 3 (pc' := 23) (ls' := [(0, mR 3 0 0), (1, mI a1)]) (st' := [mI 5, mI a1, mR 3 0 0]) (M' := M2) rfl).trans ?_
    refine (mx_callI (z := 78) (as := [mR 3 0 0, mI a1, mI 5]) (pc' := 26) (ls' := [(0, mR 3 0 0), (1, mI a1)]) (r := []) rfl (Or.inl rfl)).trans ?_
    refine mi_bdc fun q3 => ?_
    refine (mx_steps 3 (pc' := 30) (ls' := [(0, mR 3 0 0), (1, mI a1)]) (st' := [mI 6, mI a1, mR 3 0 0, mI q3.1]) (M' := q3.2) rfl).trans ?_
    refine (mx_callI (z := 78) (as := [mR 3 0 0, mI a1, mI 6]) (pc' := 33) (ls' := [(0, mR 3 0 0), (1, mI a1)]) (r := [mI q3.1]) rfl (Or.inl rfl)).trans ?_
    refine mi_bdc fun q4 => ?_
    refine (mx_steps 6 (pc' := 42) (ls' := [(0, mR 3 0 0), (1, mI a1), (2, mI (q3.1 + q4.1)), (3, mI ((-1001))), (4, mI 1)]) (st' := []) (M' := q4.2) rfl).trans ?_
    rfl
  · refine (mx_steps 2 (pc' := 12) (ls' := [(0, mR 3 0 0), (1, mI a1)]) (st' := [mI ((-1002)), mR 3 0 0]) (M' := q1.2) rfl).trans ?_
    refine (mx_callI (z := 69) (as := [mR 3 0 0, mI ((-1002))]) (pc' := 15) (ls' := [(0, mR 3 0 0), (1, mI a1)]) (r := []) rfl (Or.inl rfl)).trans ?_
    refine mi_bdc fun q5 => ?_
    exact mx_ret rfl rfl

set_option maxRecDepth 20000 in
theorem fM_till_L42_eq (v1 : Int32) (v2 : Int32) (v3 : Int32) (v4 : Int32) (M : mM) : fM_till_L42 v1 v2 v3 v4 M = (if 1000 ≤ v4 then fM_till_L95 v3 M else (if ¬ v3 = ((-1001)) then fM_till_L95 v3 M else (fM_tick M).bind fun q1 => (fM_linkAt v1 5 q1.2).bind fun q2 => (fM_linkAt v1 6 q2.2).bind fun q3 => (if (q2.1 + q3.1) ≤ v2 then fM_till_L42 v1 v2 ((-1001)) (v4 + 1) q3.2 else fM_till_L42 v1 v2 v4 (v4 + 1) q3.2))) := by
  refine (mx_steps 2 (pc' := 47) (ls' := [(0, mR 3 0 0), (1, mI v1), (2, mI v2), (3, mI v3), (4, mI v4)]) (st' := [mI 1000, mI v4]) (M' := M) rfl).trans ?_
  refine (mx_if (c := 1000 ≤ v4) (p1 := 95) (l1 := [(0, mR 3 0 0), (3, mI v3)]) (s1 := []) (M1 := M) (p2 := 50) (l2 := [(0, mR 3 0 0), (1, mI v1), (2, mI v2), (3, mI v3), (4, mI v4)]) (s2 := []) (M2 := M) rfl).trans ?_
  refine mi_itc ?_ ?_
  · rfl
  · refine (mx_steps 2 (pc' := 54) (ls' := [(0, mR 3 0 0), (1, mI v1), (2, mI v2), (3, mI v3), (4, mI v4)]) (st' := [mI ((-1001)), mI v3]) (M' := M) rfl).trans ?_
    refine (mx_if (c := ¬ v3 = ((-1001))) (p1 := 95) (l1 := [(0, mR 3 0 0), (3, mI v3)]) (s1 := []) (M1 := M) (p2 := 57) (l2 := [(0, mR 3 0 0), (1, mI v1), (2, mI v2), (3, mI v3), (4, mI v4)]) (s2 := []) (M2 := M) rfl).trans ?_
    refine mi_itc ?_ ?_
    · rfl
    · refine (mx_steps 1 (pc' := 58) (ls' := [(0, mR 3 0 0), (1, mI v1), (2, mI v2), (3, mI v3), (4, mI v4)]) (st' := [mR 3 0 0]) (M' := M) rfl).trans ?_
      refine (mx_callI (z := 101) (as := [mR 3 0 0]) (pc' := 61) (ls' := [(0, mR 3 0 0), (1, mI v1), (2, mI v2), (3, mI v3), (4, mI v4)]) (r := []) rfl (Or.inl rfl)).trans ?_
      refine mi_bdc fun q1 => ?_
      refine (mx_steps 4 (pc' := 65) (ls' := [(0, mR 3 0 0), (1, mI v1), (2, mI v2), (3, mI v3), (4, mI v4)]) (st' := [mI 5, mI v1, mR 3 0 0]) (M' := q1.2) rfl).trans ?_
      refine (mx_callI (z := 78) (as := [mR 3 0 0, mI v1, mI 5]) (pc' := 68) (ls' := [(0, mR 3 0 0), (1, mI v1), (2, mI v2), (3, mI v3), (4, mI v4)]) (r := []) rfl (Or.inl rfl)).trans ?_
      refine mi_bdc fun q2 => ?_
      refine (mx_steps 3 (pc' := 72) (ls' := [(0, mR 3 0 0), (1, mI v1), (2, mI v2), (3, mI v3), (4, mI v4)]) (st' := [mI 6, mI v1, mR 3 0 0, mI q2.1]) (M' := q2.2) rfl).trans ?_
      refine (mx_callI (z := 78) (as := [mR 3 0 0, mI v1, mI 6]) (pc' := 75) (ls' := [(0, mR 3 0 0), (1, mI v1), (2, mI v2), (3, mI v3), (4, mI v4)]) (r := [mI q2.1]) rfl (Or.inl rfl)).trans ?_
      refine mi_bdc fun q3 => ?_
      refine (mx_steps 2 (pc' := 77) (ls' := [(0, mR 3 0 0), (1, mI v1), (2, mI v2), (3, mI v3), (4, mI v4)]) (st' := [mI v2, mI (q2.1 + q3.1)]) (M' := q3.2) rfl).trans ?_
      refine (mx_if (c := (q2.1 + q3.1) ≤ v2) (p1 := 85) (l1 := [(0, mR 3 0 0), (1, mI v1), (2, mI v2), (3, mI v3), (4, mI v4)]) (s1 := []) (M1 := q3.2) (p2 := 80) (l2 := [(0, mR 3 0 0), (1, mI v1), (2, mI v2), (3, mI v3), (4, mI v4)]) (s2 := []) (M2 := q3.2) rfl).trans ?_
      refine mi_itc ?_ ?_
      · refine (mx_steps 4 (pc' := 42) (ls' := [(0, mR 3 0 0), (1, mI v1), (2, mI v2), (3, mI ((-1001))), (4, mI (v4 + 1))]) (st' := []) (M' := q3.2) rfl).trans ?_
        rfl
      · refine (mx_steps 5 (pc' := 42) (ls' := [(0, mR 3 0 0), (1, mI v1), (2, mI v2), (3, mI v4), (4, mI (v4 + 1))]) (st' := []) (M' := q3.2) rfl).trans ?_
        rfl

set_option maxRecDepth 20000 in
theorem fM_till_L95_eq (v3 : Int32) (M : mM) : fM_till_L95 v3 M = (fM_take M).bind fun M1 => some (v3, M1) := by
  refine (mx_steps 1 (pc' := 96) (ls' := [(0, mR 3 0 0), (3, mI v3)]) (st' := [mR 3 0 0]) (M' := M) rfl).trans ?_
  refine (mx_callV (z := 120) (as := [mR 3 0 0]) (pc' := 99) (ls' := [(0, mR 3 0 0), (3, mI v3)]) (r := []) rfl rfl).trans ?_
  refine mi_bdc fun M1 => ?_
  refine (mx_steps 1 (pc' := 100) (ls' := [(0, mR 3 0 0), (3, mI v3)]) (st' := [mI v3]) (M' := M1) rfl).trans ?_
  exact mx_ret rfl rfl

set_option maxRecDepth 20000 in
theorem fM_sumOf_eq (a1 : Int32) (M : mM) : fM_sumOf a1 M = fM_sumOf_L4 a1 0 0 M := by
  refine (mx_steps 4 (pc' := 4) (ls' := [(0, mR 3 0 0), (1, mI a1), (2, mI 0), (3, mI 0)]) (st' := []) (M' := M) rfl).trans ?_
  rfl

set_option maxRecDepth 20000 in
theorem fM_sumOf_L4_eq (v1 : Int32) (v2 : Int32) (v3 : Int32) (M : mM) : fM_sumOf_L4 v1 v2 v3 M = (mi_ix 5 154).bind fun k1 => (if (M.1 30 0 (0 + k1)) ≤ v3 then some (v2, M) else (fM_linkAt v3 v1 M).bind fun q2 => fM_sumOf_L4 v1 (v2 + q2.1) (v3 + 1) q2.2) := by
  refine (mx_steps 4 (pc' := 10) (ls' := [(0, mR 3 0 0), (1, mI v1), (2, mI v2), (3, mI v3)]) (st' := [mI 5, mR 30 0 0, mI v3]) (M' := M) rfl).trans ?_
  refine (mx_ix (i := 5) (n := 154) (pc' := 11) (ls' := [(0, mR 3 0 0), (1, mI v1), (2, mI v2), (3, mI v3)]) (sf := fun k1 => [mI (M.1 30 0 (0 + k1)), mI v3]) (Mf := fun k1 => M) rfl).trans ?_
  refine mi_bdc fun k1 => ?_
  refine (mx_if (c := (M.1 30 0 (0 + k1)) ≤ v3) (p1 := 29) (l1 := [(0, mR 3 0 0), (1, mI v1), (2, mI v2), (3, mI v3)]) (s1 := []) (M1 := M) (p2 := 14) (l2 := [(0, mR 3 0 0), (1, mI v1), (2, mI v2), (3, mI v3)]) (s2 := []) (M2 := M) rfl).trans ?_
  refine mi_itc ?_ ?_
  · refine (mx_steps 1 (pc' := 30) (ls' := [(0, mR 3 0 0), (1, mI v1), (2, mI v2), (3, mI v3)]) (st' := [mI v2]) (M' := M) rfl).trans ?_
    exact mx_ret rfl rfl
  · refine (mx_steps 4 (pc' := 18) (ls' := [(0, mR 3 0 0), (1, mI v1), (2, mI v2), (3, mI v3)]) (st' := [mI v1, mI v3, mR 3 0 0, mI v2]) (M' := M) rfl).trans ?_
    refine (mx_callI (z := 78) (as := [mR 3 0 0, mI v3, mI v1]) (pc' := 21) (ls' := [(0, mR 3 0 0), (1, mI v1), (2, mI v2), (3, mI v3)]) (r := [mI v2]) rfl (Or.inl rfl)).trans ?_
    refine mi_bdc fun q2 => ?_
    refine (mx_steps 4 (pc' := 4) (ls' := [(0, mR 3 0 0), (1, mI v1), (2, mI (v2 + q2.1)), (3, mI (v3 + 1))]) (st' := []) (M' := q2.2) rfl).trans ?_
    rfl

set_option maxRecDepth 20000 in
theorem fM_rings_eq (M : mM) : fM_rings M = fM_rings_L4 0 0 M := by
  refine (mx_steps 4 (pc' := 4) (ls' := [(0, mR 3 0 0), (1, mI 0), (2, mI 0)]) (st' := []) (M' := M) rfl).trans ?_
  rfl

set_option maxRecDepth 20000 in
theorem fM_rings_L4_eq (v1 : Int32) (v2 : Int32) (M : mM) : fM_rings_L4 v1 v2 M = (mi_ix 4 154).bind fun k1 => (if (M.1 30 0 (0 + k1)) ≤ v2 then some (v1, M) else (fM_ringOf v2 M).bind fun q2 => fM_rings_L4 (v1 + q2.1) (v2 + 1) q2.2) := by
  refine (mx_steps 4 (pc' := 10) (ls' := [(0, mR 3 0 0), (1, mI v1), (2, mI v2)]) (st' := [mI 4, mR 30 0 0, mI v2]) (M' := M) rfl).trans ?_
  refine (mx_ix (i := 4) (n := 154) (pc' := 11) (ls' := [(0, mR 3 0 0), (1, mI v1), (2, mI v2)]) (sf := fun k1 => [mI (M.1 30 0 (0 + k1)), mI v2]) (Mf := fun k1 => M) rfl).trans ?_
  refine mi_bdc fun k1 => ?_
  refine (mx_if (c := (M.1 30 0 (0 + k1)) ≤ v2) (p1 := 28) (l1 := [(0, mR 3 0 0), (1, mI v1), (2, mI v2)]) (s1 := []) (M1 := M) (p2 := 14) (l2 := [(0, mR 3 0 0), (1, mI v1), (2, mI v2)]) (s2 := []) (M2 := M) rfl).trans ?_
  refine mi_itc ?_ ?_
  · refine (mx_steps 1 (pc' := 29) (ls' := [(0, mR 3 0 0), (1, mI v1), (2, mI v2)]) (st' := [mI v1]) (M' := M) rfl).trans ?_
    exact mx_ret rfl rfl
  · refine (mx_steps 3 (pc' := 17) (ls' := [(0, mR 3 0 0), (1, mI v1), (2, mI v2)]) (st' := [mI v2, mR 3 0 0, mI v1]) (M' := M) rfl).trans ?_
    refine (mx_callI (z := 117) (as := [mR 3 0 0, mI v2]) (pc' := 20) (ls' := [(0, mR 3 0 0), (1, mI v1), (2, mI v2)]) (r := [mI v1]) rfl (Or.inl rfl)).trans ?_
    refine mi_bdc fun q2 => ?_
    refine (mx_steps 4 (pc' := 4) (ls' := [(0, mR 3 0 0), (1, mI (v1 + q2.1)), (2, mI (v2 + 1))]) (st' := []) (M' := q2.2) rfl).trans ?_
    rfl

set_option maxRecDepth 20000 in
theorem fM_counted_eq (a1 : Int32) (M : mM) : fM_counted a1 M = (if a1 = 0 then (mi_ix a1 154).bind fun k1 => some (M.1 30 0 (0 + k1), M) else (if a1 = 1 then (mi_ix a1 154).bind fun k2 => some (M.1 30 0 (0 + k2), M) else (if a1 = 2 then (mi_ix a1 154).bind fun k3 => some (M.1 30 0 (0 + k3), M) else (if a1 = 3 then (mi_ix 4 154).bind fun k4 => some (M.1 30 0 (0 + k4), M) else (if a1 = 4 then (mi_ix 5 154).bind fun k5 => some (M.1 30 0 (0 + k5), M) else (if a1 = 5 then (fM_referred M).bind fun q6 => some (q6.1, q6.2) else (if a1 = 6 then (fM_rings M).bind fun q7 => some (q7.1, q7.2) else (if a1 = 7 then (fM_sumOf 5 M).bind fun q8 => some (q8.1, q8.2) else (if a1 = 8 then (fM_sumOf 6 M).bind fun q9 => some (q9.1, q9.2) else (mi_ix 3 154).bind fun k10 => some (M.1 30 0 (0 + k10), M)))))))))) := by
  refine (mx_steps 1 (pc' := 1) (ls' := [(0, mR 3 0 0), (1, mI a1)]) (st' := [mI a1]) (M' := M) rfl).trans ?_
  refine (mx_table (x := a1) (lo := 0) (ts := [52, 52, 52, 59, 66, 73, 78, 83, 89]) (d := 96) rfl).trans ?_
  refine mi_swc (F := fun tg => mi_ex mi_pI 127 tg (mi_jmp 127 tg [(0, mR 3 0 0), (1, mI a1)]) [] M) (k := 0) rfl ?_ ?_
  · show mi_ex mi_pI 127 52 [(0, mR 3 0 0), (1, mI a1)] [] M = _
    refine (mx_steps 3 (pc' := 57) (ls' := [(0, mR 3 0 0), (1, mI a1)]) (st' := [mI a1, mR 30 0 0]) (M' := M) rfl).trans ?_
    refine (mx_ix (i := a1) (n := 154) (pc' := 58) (ls' := [(0, mR 3 0 0), (1, mI a1)]) (sf := fun k1 => [mI (M.1 30 0 (0 + k1))]) (Mf := fun k1 => M) rfl).trans ?_
    refine mi_bdc fun k1 => ?_
    exact mx_ret rfl rfl
  refine mi_swc (F := fun tg => mi_ex mi_pI 127 tg (mi_jmp 127 tg [(0, mR 3 0 0), (1, mI a1)]) [] M) (k := 1) rfl ?_ ?_
  · show mi_ex mi_pI 127 52 [(0, mR 3 0 0), (1, mI a1)] [] M = _
    refine (mx_steps 3 (pc' := 57) (ls' := [(0, mR 3 0 0), (1, mI a1)]) (st' := [mI a1, mR 30 0 0]) (M' := M) rfl).trans ?_
    refine (mx_ix (i := a1) (n := 154) (pc' := 58) (ls' := [(0, mR 3 0 0), (1, mI a1)]) (sf := fun k2 => [mI (M.1 30 0 (0 + k2))]) (Mf := fun k2 => M) rfl).trans ?_
    refine mi_bdc fun k2 => ?_
    exact mx_ret rfl rfl
  refine mi_swc (F := fun tg => mi_ex mi_pI 127 tg (mi_jmp 127 tg [(0, mR 3 0 0), (1, mI a1)]) [] M) (k := 2) rfl ?_ ?_
  · show mi_ex mi_pI 127 52 [(0, mR 3 0 0), (1, mI a1)] [] M = _
    refine (mx_steps 3 (pc' := 57) (ls' := [(0, mR 3 0 0), (1, mI a1)]) (st' := [mI a1, mR 30 0 0]) (M' := M) rfl).trans ?_
    refine (mx_ix (i := a1) (n := 154) (pc' := 58) (ls' := [(0, mR 3 0 0), (1, mI a1)]) (sf := fun k3 => [mI (M.1 30 0 (0 + k3))]) (Mf := fun k3 => M) rfl).trans ?_
    refine mi_bdc fun k3 => ?_
    exact mx_ret rfl rfl
  refine mi_swc (F := fun tg => mi_ex mi_pI 127 tg (mi_jmp 127 tg [(0, mR 3 0 0), (1, mI a1)]) [] M) (k := 3) rfl ?_ ?_
  · show mi_ex mi_pI 127 59 [(0, mR 3 0 0), (1, mI a1)] [] M = _
    refine (mx_steps 3 (pc' := 64) (ls' := [(0, mR 3 0 0), (1, mI a1)]) (st' := [mI 4, mR 30 0 0]) (M' := M) rfl).trans ?_
    refine (mx_ix (i := 4) (n := 154) (pc' := 65) (ls' := [(0, mR 3 0 0), (1, mI a1)]) (sf := fun k4 => [mI (M.1 30 0 (0 + k4))]) (Mf := fun k4 => M) rfl).trans ?_
    refine mi_bdc fun k4 => ?_
    exact mx_ret rfl rfl
  refine mi_swc (F := fun tg => mi_ex mi_pI 127 tg (mi_jmp 127 tg [(0, mR 3 0 0), (1, mI a1)]) [] M) (k := 4) rfl ?_ ?_
  · show mi_ex mi_pI 127 66 [(0, mR 3 0 0), (1, mI a1)] [] M = _
    refine (mx_steps 3 (pc' := 71) (ls' := [(0, mR 3 0 0), (1, mI a1)]) (st' := [mI 5, mR 30 0 0]) (M' := M) rfl).trans ?_
    refine (mx_ix (i := 5) (n := 154) (pc' := 72) (ls' := [(0, mR 3 0 0), (1, mI a1)]) (sf := fun k5 => [mI (M.1 30 0 (0 + k5))]) (Mf := fun k5 => M) rfl).trans ?_
    refine mi_bdc fun k5 => ?_
    exact mx_ret rfl rfl
  refine mi_swc (F := fun tg => mi_ex mi_pI 127 tg (mi_jmp 127 tg [(0, mR 3 0 0), (1, mI a1)]) [] M) (k := 5) rfl ?_ ?_
  · show mi_ex mi_pI 127 73 [(0, mR 3 0 0), (1, mI a1)] [] M = _
    refine (mx_steps 1 (pc' := 74) (ls' := [(0, mR 3 0 0), (1, mI a1)]) (st' := [mR 3 0 0]) (M' := M) rfl).trans ?_
    refine (mx_callI (z := 97) (as := [mR 3 0 0]) (pc' := 77) (ls' := [(0, mR 3 0 0), (1, mI a1)]) (r := []) rfl (Or.inl rfl)).trans ?_
    refine mi_bdc fun q6 => ?_
    exact mx_ret rfl rfl
  refine mi_swc (F := fun tg => mi_ex mi_pI 127 tg (mi_jmp 127 tg [(0, mR 3 0 0), (1, mI a1)]) [] M) (k := 6) rfl ?_ ?_
  · show mi_ex mi_pI 127 78 [(0, mR 3 0 0), (1, mI a1)] [] M = _
    refine (mx_steps 1 (pc' := 79) (ls' := [(0, mR 3 0 0), (1, mI a1)]) (st' := [mR 3 0 0]) (M' := M) rfl).trans ?_
    refine (mx_callI (z := 126) (as := [mR 3 0 0]) (pc' := 82) (ls' := [(0, mR 3 0 0), (1, mI a1)]) (r := []) rfl (Or.inl rfl)).trans ?_
    refine mi_bdc fun q7 => ?_
    exact mx_ret rfl rfl
  refine mi_swc (F := fun tg => mi_ex mi_pI 127 tg (mi_jmp 127 tg [(0, mR 3 0 0), (1, mI a1)]) [] M) (k := 7) rfl ?_ ?_
  · show mi_ex mi_pI 127 83 [(0, mR 3 0 0), (1, mI a1)] [] M = _
    refine (mx_steps 2 (pc' := 85) (ls' := [(0, mR 3 0 0), (1, mI a1)]) (st' := [mI 5, mR 3 0 0]) (M' := M) rfl).trans ?_
    refine (mx_callI (z := 125) (as := [mR 3 0 0, mI 5]) (pc' := 88) (ls' := [(0, mR 3 0 0), (1, mI a1)]) (r := []) rfl (Or.inl rfl)).trans ?_
    refine mi_bdc fun q8 => ?_
    exact mx_ret rfl rfl
  refine mi_swc (F := fun tg => mi_ex mi_pI 127 tg (mi_jmp 127 tg [(0, mR 3 0 0), (1, mI a1)]) [] M) (k := 8) rfl ?_ ?_
  · show mi_ex mi_pI 127 89 [(0, mR 3 0 0), (1, mI a1)] [] M = _
    refine (mx_steps 2 (pc' := 92) (ls' := [(0, mR 3 0 0), (1, mI a1)]) (st' := [mI 6, mR 3 0 0]) (M' := M) rfl).trans ?_
    refine (mx_callI (z := 125) (as := [mR 3 0 0, mI 6]) (pc' := 95) (ls' := [(0, mR 3 0 0), (1, mI a1)]) (r := []) rfl (Or.inl rfl)).trans ?_
    refine mi_bdc fun q9 => ?_
    exact mx_ret rfl rfl
  show mi_ex mi_pI 127 96 [(0, mR 3 0 0), (1, mI a1)] [] M = _
  refine (mx_steps 3 (pc' := 101) (ls' := [(0, mR 3 0 0), (1, mI a1)]) (st' := [mI 3, mR 30 0 0]) (M' := M) rfl).trans ?_
  refine (mx_ix (i := 3) (n := 154) (pc' := 102) (ls' := [(0, mR 3 0 0), (1, mI a1)]) (sf := fun k10 => [mI (M.1 30 0 (0 + k10))]) (Mf := fun k10 => M) rfl).trans ?_
  refine mi_bdc fun k10 => ?_
  exact mx_ret rfl rfl

set_option maxRecDepth 20000 in
theorem fM_count_eq (a1 : Int32) (M : mM) : fM_count a1 M = (fM_in a1 0 9 M).bind fun q1 => (if q1.1 = 0 then (fM_refuses ((-1002)) q1.2).bind fun q2 => some (q2.1, q2.2) else (fM_counted a1 q1.2).bind fun q3 => some (q3.1, q3.2)) := by
  refine (mx_steps 3 (pc' := 4) (ls' := [(0, mR 3 0 0), (1, mI a1)]) (st' := [mI 9, mI 0, mI a1]) (M' := M) rfl).trans ?_
  refine (mx_callI (z := 68) (as := [mI a1, mI 0, mI 9]) (pc' := 7) (ls' := [(0, mR 3 0 0), (1, mI a1)]) (r := []) rfl (Or.inr rfl)).trans ?_
  refine mi_bdc fun q1 => ?_
  refine (mx_if (c := q1.1 = 0) (p1 := 18) (l1 := [(0, mR 3 0 0), (1, mI a1)]) (s1 := []) (M1 := q1.2) (p2 := 10) (l2 := [(0, mR 3 0 0), (1, mI a1)]) (s2 := []) (M2 := q1.2) rfl).trans ?_
  refine mi_itc ?_ ?_
  · refine (mx_steps 2 (pc' := 22) (ls' := [(0, mR 3 0 0), (1, mI a1)]) (st' := [mI ((-1002)), mR 3 0 0]) (M' := q1.2) rfl).trans ?_
    refine (mx_callI (z := 69) (as := [mR 3 0 0, mI ((-1002))]) (pc' := 25) (ls' := [(0, mR 3 0 0), (1, mI a1)]) (r := []) rfl (Or.inl rfl)).trans ?_
    refine mi_bdc fun q2 => ?_
    exact mx_ret rfl rfl
  · refine (mx_steps 2 (pc' := 12) (ls' := [(0, mR 3 0 0), (1, mI a1)]) (st' := [mI a1, mR 3 0 0]) (M' := q1.2) rfl).trans ?_
    refine (mx_callI (z := 127) (as := [mR 3 0 0, mI a1]) (pc' := 15) (ls' := [(0, mR 3 0 0), (1, mI a1)]) (r := []) rfl (Or.inl rfl)).trans ?_
    refine mi_bdc fun q3 => ?_
    refine (mx_steps 1 (pc' := 25) (ls' := [(0, mR 3 0 0), (1, mI a1)]) (st' := [mI q3.1]) (M' := q3.2) rfl).trans ?_
    exact mx_ret rfl rfl

set_option maxRecDepth 20000 in
theorem fM_type_eq (a1 : Int32) (M : mM) : fM_type a1 M = (fM_in a1 0 127 M).bind fun q1 => (if ¬ q1.1 = 0 then (if ¬ (q1.2.1 41 0 3) = 120 then (mi_ix (q1.2.1 41 0 3) 120).bind fun k2 => some ((mi_set (mi_set q1.2 38 0 (0 + k2) a1) 41 0 3 (((mi_set q1.2 38 0 (0 + k2) a1).1 41 0 3) + 1)).1 41 0 3, mi_set (mi_set q1.2 38 0 (0 + k2) a1) 41 0 3 (((mi_set q1.2 38 0 (0 + k2) a1).1 41 0 3) + 1)) else (fM_refuses ((-1004)) q1.2).bind fun q3 => some (q3.1, q3.2)) else (fM_refuses ((-1002)) q1.2).bind fun q4 => some (q4.1, q4.2)) := by
  refine (mx_steps 3 (pc' := 4) (ls' := [(0, mR 3 0 0), (1, mI a1)]) (st' := [mI 127, mI 0, mI a1]) (M' := M) rfl).trans ?_
  refine (mx_callI (z := 68) (as := [mI a1, mI 0, mI 127]) (pc' := 7) (ls' := [(0, mR 3 0 0), (1, mI a1)]) (r := []) rfl (Or.inr rfl)).trans ?_
  refine mi_bdc fun q1 => ?_
  refine (mx_if (c := ¬ q1.1 = 0) (p1 := 18) (l1 := [(0, mR 3 0 0), (1, mI a1)]) (s1 := []) (M1 := q1.2) (p2 := 10) (l2 := [(0, mR 3 0 0), (1, mI a1)]) (s2 := []) (M2 := q1.2) rfl).trans ?_
  refine mi_itc ?_ ?_
  · refine (mx_steps 3 (pc' := 24) (ls' := [(0, mR 3 0 0), (1, mI a1)]) (st' := [mI 120, mI (q1.2.1 41 0 3)]) (M' := q1.2) rfl).trans ?_
    refine (mx_if (c := ¬ (q1.2.1 41 0 3) = 120) (p1 := 35) (l1 := [(0, mR 3 0 0), (1, mI a1)]) (s1 := []) (M1 := q1.2) (p2 := 27) (l2 := [(0, mR 3 0 0), (1, mI a1)]) (s2 := []) (M2 := q1.2) rfl).trans ?_
    refine mi_itc ?_ ?_
    · refine (mx_steps 5 (pc' := 44) (ls' := [(0, mR 3 0 0), (1, mI a1)]) (st' := [mI a1, mI (q1.2.1 41 0 3), mR 38 0 0]) (M' := q1.2) rfl).trans ?_
      refine (mx_ix (i := q1.2.1 41 0 3) (n := 120) (pc' := 45) (ls' := [(0, mR 3 0 0), (1, mI a1)]) (sf := fun k2 => []) (Mf := fun k2 => mi_set q1.2 38 0 (0 + k2) a1) rfl).trans ?_
      refine mi_bdc fun k2 => ?_
      refine (mx_steps 8 (pc' := 59) (ls' := [(0, mR 3 0 0), (1, mI a1)]) (st' := [mI ((mi_set (mi_set q1.2 38 0 (0 + k2) a1) 41 0 3 (((mi_set q1.2 38 0 (0 + k2) a1).1 41 0 3) + 1)).1 41 0 3)]) (M' := mi_set (mi_set q1.2 38 0 (0 + k2) a1) 41 0 3 (((mi_set q1.2 38 0 (0 + k2) a1).1 41 0 3) + 1)) rfl).trans ?_
      exact mx_ret rfl rfl
    · refine (mx_steps 2 (pc' := 31) (ls' := [(0, mR 3 0 0), (1, mI a1)]) (st' := [mI ((-1004)), mR 3 0 0]) (M' := q1.2) rfl).trans ?_
      refine (mx_callI (z := 69) (as := [mR 3 0 0, mI ((-1004))]) (pc' := 34) (ls' := [(0, mR 3 0 0), (1, mI a1)]) (r := []) rfl (Or.inl rfl)).trans ?_
      refine mi_bdc fun q3 => ?_
      exact mx_ret rfl rfl
  · refine (mx_steps 2 (pc' := 14) (ls' := [(0, mR 3 0 0), (1, mI a1)]) (st' := [mI ((-1002)), mR 3 0 0]) (M' := q1.2) rfl).trans ?_
    refine (mx_callI (z := 69) (as := [mR 3 0 0, mI ((-1002))]) (pc' := 17) (ls' := [(0, mR 3 0 0), (1, mI a1)]) (r := []) rfl (Or.inl rfl)).trans ?_
    refine mi_bdc fun q4 => ?_
    exact mx_ret rfl rfl

set_option maxRecDepth 20000 in
theorem fM_clear_eq (M : mM) : fM_clear M = some (M.1 41 0 3, mi_set M 41 0 3 0) := by
  refine (mx_steps 7 (pc' := 11) (ls' := [(0, mR 3 0 0), (1, mI (M.1 41 0 3))]) (st' := [mI (M.1 41 0 3)]) (M' := mi_set M 41 0 3 0) rfl).trans ?_
  exact mx_ret rfl rfl

set_option maxRecDepth 20000 in
theorem fM_here_eq (M : mM) : fM_here M = (if (M.1 41 0 3) ≤ (M.1 41 0 4) then fM_here_L38 M else (mi_ix (M.1 41 0 4) 120).bind fun k1 => (if ¬ (M.1 38 0 (0 + k1)) = 32 then fM_here_L38 M else fM_here_L0 (mi_set M 41 0 4 ((M.1 41 0 4) + 1)))) := by
  refine (mx_steps 4 (pc' := 8) (ls' := [(0, mR 3 0 0)]) (st' := [mI (M.1 41 0 3), mI (M.1 41 0 4)]) (M' := M) rfl).trans ?_
  refine (mx_if (c := (M.1 41 0 3) ≤ (M.1 41 0 4)) (p1 := 38) (l1 := [(0, mR 3 0 0)]) (s1 := []) (M1 := M) (p2 := 11) (l2 := [(0, mR 3 0 0)]) (s2 := []) (M2 := M) rfl).trans ?_
  refine mi_itc ?_ ?_
  · rfl
  · refine (mx_steps 4 (pc' := 19) (ls' := [(0, mR 3 0 0)]) (st' := [mI (M.1 41 0 4), mR 38 0 0]) (M' := M) rfl).trans ?_
    refine (mx_ix (i := M.1 41 0 4) (n := 120) (pc' := 20) (ls' := [(0, mR 3 0 0)]) (sf := fun k1 => [mI (M.1 38 0 (0 + k1))]) (Mf := fun k1 => M) rfl).trans ?_
    refine mi_bdc fun k1 => ?_
    refine (mx_steps 1 (pc' := 22) (ls' := [(0, mR 3 0 0)]) (st' := [mI 32, mI (M.1 38 0 (0 + k1))]) (M' := M) rfl).trans ?_
    refine (mx_if (c := ¬ (M.1 38 0 (0 + k1)) = 32) (p1 := 38) (l1 := [(0, mR 3 0 0)]) (s1 := []) (M1 := M) (p2 := 25) (l2 := [(0, mR 3 0 0)]) (s2 := []) (M2 := M) rfl).trans ?_
    refine mi_itc ?_ ?_
    · rfl
    · refine (mx_steps 7 (pc' := 0) (ls' := [(0, mR 3 0 0)]) (st' := []) (M' := mi_set M 41 0 4 ((M.1 41 0 4) + 1)) rfl).trans ?_
      rfl

set_option maxRecDepth 20000 in
theorem fM_here_L38_eq (M : mM) : fM_here_L38 M = (if (M.1 41 0 3) ≤ (M.1 41 0 4) then some ((-1001), M) else (mi_ix (M.1 41 0 4) 120).bind fun k1 => some (M.1 38 0 (0 + k1), M)) := by
  refine (mx_steps 4 (pc' := 46) (ls' := [(0, mR 3 0 0)]) (st' := [mI (M.1 41 0 3), mI (M.1 41 0 4)]) (M' := M) rfl).trans ?_
  refine (mx_if (c := (M.1 41 0 3) ≤ (M.1 41 0 4)) (p1 := 61) (l1 := [(0, mR 3 0 0)]) (s1 := []) (M1 := M) (p2 := 49) (l2 := [(0, mR 3 0 0)]) (s2 := []) (M2 := M) rfl).trans ?_
  refine mi_itc ?_ ?_
  · refine (mx_steps 1 (pc' := 64) (ls' := [(0, mR 3 0 0)]) (st' := [mI ((-1001))]) (M' := M) rfl).trans ?_
    exact mx_ret rfl rfl
  · refine (mx_steps 4 (pc' := 57) (ls' := [(0, mR 3 0 0)]) (st' := [mI (M.1 41 0 4), mR 38 0 0]) (M' := M) rfl).trans ?_
    refine (mx_ix (i := M.1 41 0 4) (n := 120) (pc' := 58) (ls' := [(0, mR 3 0 0)]) (sf := fun k1 => [mI (M.1 38 0 (0 + k1))]) (Mf := fun k1 => M) rfl).trans ?_
    refine mi_bdc fun k1 => ?_
    refine (mx_steps 1 (pc' := 64) (ls' := [(0, mR 3 0 0)]) (st' := [mI (M.1 38 0 (0 + k1))]) (M' := M) rfl).trans ?_
    exact mx_ret rfl rfl

set_option maxRecDepth 20000 in
theorem fM_here_L0_eq (M : mM) : fM_here_L0 M = (if (M.1 41 0 3) ≤ (M.1 41 0 4) then fM_here_L38 M else (mi_ix (M.1 41 0 4) 120).bind fun k1 => (if ¬ (M.1 38 0 (0 + k1)) = 32 then fM_here_L38 M else fM_here_L0 (mi_set M 41 0 4 ((M.1 41 0 4) + 1)))) := by
  refine (mx_steps 4 (pc' := 8) (ls' := [(0, mR 3 0 0)]) (st' := [mI (M.1 41 0 3), mI (M.1 41 0 4)]) (M' := M) rfl).trans ?_
  refine (mx_if (c := (M.1 41 0 3) ≤ (M.1 41 0 4)) (p1 := 38) (l1 := [(0, mR 3 0 0)]) (s1 := []) (M1 := M) (p2 := 11) (l2 := [(0, mR 3 0 0)]) (s2 := []) (M2 := M) rfl).trans ?_
  refine mi_itc ?_ ?_
  · rfl
  · refine (mx_steps 4 (pc' := 19) (ls' := [(0, mR 3 0 0)]) (st' := [mI (M.1 41 0 4), mR 38 0 0]) (M' := M) rfl).trans ?_
    refine (mx_ix (i := M.1 41 0 4) (n := 120) (pc' := 20) (ls' := [(0, mR 3 0 0)]) (sf := fun k1 => [mI (M.1 38 0 (0 + k1))]) (Mf := fun k1 => M) rfl).trans ?_
    refine mi_bdc fun k1 => ?_
    refine (mx_steps 1 (pc' := 22) (ls' := [(0, mR 3 0 0)]) (st' := [mI 32, mI (M.1 38 0 (0 + k1))]) (M' := M) rfl).trans ?_
    refine (mx_if (c := ¬ (M.1 38 0 (0 + k1)) = 32) (p1 := 38) (l1 := [(0, mR 3 0 0)]) (s1 := []) (M1 := M) (p2 := 25) (l2 := [(0, mR 3 0 0)]) (s2 := []) (M2 := M) rfl).trans ?_
    refine mi_itc ?_ ?_
    · rfl
    · refine (mx_steps 7 (pc' := 0) (ls' := [(0, mR 3 0 0)]) (st' := []) (M' := mi_set M 41 0 4 ((M.1 41 0 4) + 1)) rfl).trans ?_
      rfl

set_option maxRecDepth 20000 in
theorem fM_must_eq (a1 : Int32) (M : mM) : fM_must a1 M = (if ¬ (M.1 41 0 5) = ((-1001)) then some M else (if a1 = 0 then some (mi_set M 41 0 5 (M.1 41 0 4)) else some (mi_set M 41 0 4 ((M.1 41 0 4) + 1)))) := by
  refine (mx_steps 3 (pc' := 7) (ls' := [(0, mR 3 0 0), (1, mI a1)]) (st' := [mI ((-1001)), mI (M.1 41 0 5)]) (M' := M) rfl).trans ?_
  refine (mx_if (c := ¬ (M.1 41 0 5) = ((-1001))) (p1 := 35) (l1 := [(0, mR 3 0 0), (1, mI a1)]) (s1 := []) (M1 := M) (p2 := 10) (l2 := [(0, mR 3 0 0), (1, mI a1)]) (s2 := []) (M2 := M) rfl).trans ?_
  refine mi_itc ?_ ?_
  · exact mx_ret rfl rfl
  · refine (mx_steps 1 (pc' := 11) (ls' := [(0, mR 3 0 0), (1, mI a1)]) (st' := [mI a1]) (M' := M) rfl).trans ?_
    refine (mx_if (c := a1 = 0) (p1 := 27) (l1 := [(0, mR 3 0 0), (1, mI a1)]) (s1 := []) (M1 := M) (p2 := 14) (l2 := [(0, mR 3 0 0), (1, mI a1)]) (s2 := []) (M2 := M) rfl).trans ?_
    refine mi_itc ?_ ?_
    · refine (mx_steps 4 (pc' := 35) (ls' := [(0, mR 3 0 0), (1, mI a1)]) (st' := []) (M' := mi_set M 41 0 5 (M.1 41 0 4)) rfl).trans ?_
      exact mx_ret rfl rfl
    · refine (mx_steps 7 (pc' := 35) (ls' := [(0, mR 3 0 0), (1, mI a1)]) (st' := []) (M' := mi_set M 41 0 4 ((M.1 41 0 4) + 1)) rfl).trans ?_
      exact mx_ret rfl rfl

set_option maxRecDepth 20000 in
theorem fM_isFigure_eq (M : mM) : fM_isFigure M = (if (M.1 41 0 3) ≤ (M.1 41 0 4) then some (0, M) else (mi_ix (M.1 41 0 4) 120).bind fun k1 => (fM_in (M.1 38 0 (0 + k1)) 48 57 M).bind fun q2 => (if q2.1 = 0 then some (0, q2.2) else some (1, q2.2))) := by
  refine (mx_steps 4 (pc' := 8) (ls' := [(0, mR 3 0 0)]) (st' := [mI (M.1 41 0 3), mI (M.1 41 0 4)]) (M' := M) rfl).trans ?_
  refine (mx_if (c := (M.1 41 0 3) ≤ (M.1 41 0 4)) (p1 := 34) (l1 := [(0, mR 3 0 0)]) (s1 := []) (M1 := M) (p2 := 11) (l2 := [(0, mR 3 0 0)]) (s2 := []) (M2 := M) rfl).trans ?_
  refine mi_itc ?_ ?_
  · refine (mx_steps 1 (pc' := 35) (ls' := [(0, mR 3 0 0)]) (st' := [mI 0]) (M' := M) rfl).trans ?_
    exact mx_ret rfl rfl
  · refine (mx_steps 4 (pc' := 19) (ls' := [(0, mR 3 0 0)]) (st' := [mI (M.1 41 0 4), mR 38 0 0]) (M' := M) rfl).trans ?_
    refine (mx_ix (i := M.1 41 0 4) (n := 120) (pc' := 20) (ls' := [(0, mR 3 0 0)]) (sf := fun k1 => [mI (M.1 38 0 (0 + k1))]) (Mf := fun k1 => M) rfl).trans ?_
    refine mi_bdc fun k1 => ?_
    refine (mx_steps 2 (pc' := 24) (ls' := [(0, mR 3 0 0)]) (st' := [mI 57, mI 48, mI (M.1 38 0 (0 + k1))]) (M' := M) rfl).trans ?_
    refine (mx_callI (z := 68) (as := [mI (M.1 38 0 (0 + k1)), mI 48, mI 57]) (pc' := 27) (ls' := [(0, mR 3 0 0)]) (r := []) rfl (Or.inr rfl)).trans ?_
    refine mi_bdc fun q2 => ?_
    refine (mx_if (c := q2.1 = 0) (p1 := 34) (l1 := [(0, mR 3 0 0)]) (s1 := []) (M1 := q2.2) (p2 := 30) (l2 := [(0, mR 3 0 0)]) (s2 := []) (M2 := q2.2) rfl).trans ?_
    refine mi_itc ?_ ?_
    · refine (mx_steps 1 (pc' := 35) (ls' := [(0, mR 3 0 0)]) (st' := [mI 0]) (M' := q2.2) rfl).trans ?_
      exact mx_ret rfl rfl
    · refine (mx_steps 2 (pc' := 35) (ls' := [(0, mR 3 0 0)]) (st' := [mI 1]) (M' := q2.2) rfl).trans ?_
      exact mx_ret rfl rfl

set_option maxRecDepth 20000 in
theorem fM_number_eq (a1 : Int32) (M : mM) : fM_number a1 M = (fM_here M).bind fun q1 => (if ¬ q1.1 = 45 then fM_number_L17 q1.2 else (if a1 = 0 then fM_number_L17 q1.2 else fM_number_L18 1 q1.2)) := by
  refine (mx_steps 1 (pc' := 1) (ls' := [(0, mR 3 0 0), (1, mI a1)]) (st' := [mR 3 0 0]) (M' := M) rfl).trans ?_
  refine (mx_callI (z := 131) (as := [mR 3 0 0]) (pc' := 4) (ls' := [(0, mR 3 0 0), (1, mI a1)]) (r := []) rfl (Or.inl rfl)).trans ?_
  refine mi_bdc fun q1 => ?_
  refine (mx_steps 1 (pc' := 6) (ls' := [(0, mR 3 0 0), (1, mI a1)]) (st' := [mI 45, mI q1.1]) (M' := q1.2) rfl).trans ?_
  refine (mx_if (c := ¬ q1.1 = 45) (p1 := 17) (l1 := [(0, mR 3 0 0)]) (s1 := []) (M1 := q1.2) (p2 := 9) (l2 := [(0, mR 3 0 0), (1, mI a1)]) (s2 := []) (M2 := q1.2) rfl).trans ?_
  refine mi_itc ?_ ?_
  · rfl
  · refine (mx_steps 1 (pc' := 10) (ls' := [(0, mR 3 0 0), (1, mI a1)]) (st' := [mI a1]) (M' := q1.2) rfl).trans ?_
    refine (mx_if (c := a1 = 0) (p1 := 17) (l1 := [(0, mR 3 0 0)]) (s1 := []) (M1 := q1.2) (p2 := 13) (l2 := [(0, mR 3 0 0), (1, mI a1)]) (s2 := []) (M2 := q1.2) rfl).trans ?_
    refine mi_itc ?_ ?_
    · rfl
    · refine (mx_steps 2 (pc' := 18) (ls' := [(0, mR 3 0 0)]) (st' := [mI 1]) (M' := q1.2) rfl).trans ?_
      rfl

set_option maxRecDepth 20000 in
theorem fM_number_L17_eq (M : mM) : fM_number_L17 M = fM_number_L18 0 M := by
  refine (mx_steps 1 (pc' := 18) (ls' := [(0, mR 3 0 0)]) (st' := [mI 0]) (M' := M) rfl).trans ?_
  rfl

set_option maxRecDepth 20000 in
theorem fM_number_L18_eq (s0 : Int32) (M : mM) : fM_number_L18 s0 M = (if s0 = 0 then fM_number_L33 s0 (M.1 41 0 4) 0 M else fM_number_L33 s0 (M.1 41 0 4) 1 M) := by
  refine (mx_steps 5 (pc' := 25) (ls' := [(0, mR 3 0 0), (2, mI s0)]) (st' := [mI s0, mI (M.1 41 0 4), mR 3 0 0]) (M' := M) rfl).trans ?_
  refine (mx_if (c := s0 = 0) (p1 := 32) (l1 := [(0, mR 3 0 0), (2, mI s0)]) (s1 := [mI (M.1 41 0 4), mR 3 0 0]) (M1 := M) (p2 := 28) (l2 := [(0, mR 3 0 0), (2, mI s0)]) (s2 := [mI (M.1 41 0 4), mR 3 0 0]) (M2 := M) rfl).trans ?_
  refine mi_itc ?_ ?_
  · refine (mx_steps 1 (pc' := 33) (ls' := [(0, mR 3 0 0), (2, mI s0)]) (st' := [mI 0, mI (M.1 41 0 4), mR 3 0 0]) (M' := M) rfl).trans ?_
    rfl
  · refine (mx_steps 2 (pc' := 33) (ls' := [(0, mR 3 0 0), (2, mI s0)]) (st' := [mI 1, mI (M.1 41 0 4), mR 3 0 0]) (M' := M) rfl).trans ?_
    rfl

set_option maxRecDepth 20000 in
theorem fM_number_L33_eq (v2 : Int32) (s1 : Int32) (s2 : Int32) (M : mM) : fM_number_L33 v2 s1 s2 M = (fM_isFigure (mi_set M 41 0 4 (s1 + s2))).bind fun q1 => (if q1.1 = 0 then fM_number_L60 v2 0 q1.2 else (mi_ix (q1.2.1 41 0 4) 120).bind fun k2 => fM_number_L60 v2 ((q1.2.1 38 0 (0 + k2)) - 48) q1.2) := by
  refine (mx_steps 3 (pc' := 38) (ls' := [(0, mR 3 0 0), (2, mI v2)]) (st' := [mR 3 0 0]) (M' := mi_set M 41 0 4 (s1 + s2)) rfl).trans ?_
  refine (mx_callI (z := 133) (as := [mR 3 0 0]) (pc' := 41) (ls' := [(0, mR 3 0 0), (2, mI v2)]) (r := []) rfl (Or.inr rfl)).trans ?_
  refine mi_bdc fun q1 => ?_
  refine (mx_if (c := q1.1 = 0) (p1 := 59) (l1 := [(0, mR 3 0 0), (2, mI v2)]) (s1 := []) (M1 := q1.2) (p2 := 44) (l2 := [(0, mR 3 0 0), (2, mI v2)]) (s2 := []) (M2 := q1.2) rfl).trans ?_
  refine mi_itc ?_ ?_
  · refine (mx_steps 1 (pc' := 60) (ls' := [(0, mR 3 0 0), (2, mI v2)]) (st' := [mI 0]) (M' := q1.2) rfl).trans ?_
    rfl
  · refine (mx_steps 4 (pc' := 52) (ls' := [(0, mR 3 0 0), (2, mI v2)]) (st' := [mI (q1.2.1 41 0 4), mR 38 0 0]) (M' := q1.2) rfl).trans ?_
    refine (mx_ix (i := q1.2.1 41 0 4) (n := 120) (pc' := 53) (ls' := [(0, mR 3 0 0), (2, mI v2)]) (sf := fun k2 => [mI (q1.2.1 38 0 (0 + k2))]) (Mf := fun k2 => q1.2) rfl).trans ?_
    refine mi_bdc fun k2 => ?_
    refine (mx_steps 3 (pc' := 60) (ls' := [(0, mR 3 0 0), (2, mI v2)]) (st' := [mI ((q1.2.1 38 0 (0 + k2)) - 48)]) (M' := q1.2) rfl).trans ?_
    rfl

set_option maxRecDepth 20000 in
theorem fM_number_L60_eq (v2 : Int32) (s0 : Int32) (M : mM) : fM_number_L60 v2 s0 M = (fM_isFigure M).bind fun q1 => (fM_must q1.1 q1.2).bind fun M2 => fM_number_L72 v2 s0 0 M2 := by
  refine (mx_steps 3 (pc' := 63) (ls' := [(0, mR 3 0 0), (2, mI v2), (3, mI s0)]) (st' := [mR 3 0 0, mR 3 0 0]) (M' := M) rfl).trans ?_
  refine (mx_callI (z := 133) (as := [mR 3 0 0]) (pc' := 66) (ls' := [(0, mR 3 0 0), (2, mI v2), (3, mI s0)]) (r := [mR 3 0 0]) rfl (Or.inr rfl)).trans ?_
  refine mi_bdc fun q1 => ?_
  refine (mx_callV (z := 132) (as := [mR 3 0 0, mI q1.1]) (pc' := 69) (ls' := [(0, mR 3 0 0), (2, mI v2), (3, mI s0)]) (r := []) rfl rfl).trans ?_
  refine mi_bdc fun M2 => ?_
  refine (mx_steps 2 (pc' := 72) (ls' := [(0, mR 3 0 0), (2, mI v2), (3, mI s0), (4, mI 0)]) (st' := []) (M' := M2) rfl).trans ?_
  rfl

set_option maxRecDepth 20000 in
theorem fM_number_L72_eq (v2 : Int32) (v3 : Int32) (v4 : Int32) (M : mM) : fM_number_L72 v2 v3 v4 M = (if 2 ≤ v4 then fM_number_L129 v2 v3 M else (if ¬ (M.1 41 0 5) = ((-1001)) then fM_number_L129 v2 v3 M else (fM_isFigure M).bind fun q1 => (if q1.1 = 0 then fM_number_L129 v2 v3 q1.2 else (mi_ix (q1.2.1 41 0 4) 120).bind fun k2 => fM_number_L72 v2 (((10 * v3) + (q1.2.1 38 0 (0 + k2))) - 48) (v4 + 1) (mi_set q1.2 41 0 4 ((q1.2.1 41 0 4) + 1))))) := by
  refine (mx_steps 2 (pc' := 75) (ls' := [(0, mR 3 0 0), (2, mI v2), (3, mI v3), (4, mI v4)]) (st' := [mI 2, mI v4]) (M' := M) rfl).trans ?_
  refine (mx_if (c := 2 ≤ v4) (p1 := 129) (l1 := [(0, mR 3 0 0), (2, mI v2), (3, mI v3)]) (s1 := []) (M1 := M) (p2 := 78) (l2 := [(0, mR 3 0 0), (2, mI v2), (3, mI v3), (4, mI v4)]) (s2 := []) (M2 := M) rfl).trans ?_
  refine mi_itc ?_ ?_
  · rfl
  · refine (mx_steps 3 (pc' := 85) (ls' := [(0, mR 3 0 0), (2, mI v2), (3, mI v3), (4, mI v4)]) (st' := [mI ((-1001)), mI (M.1 41 0 5)]) (M' := M) rfl).trans ?_
    refine (mx_if (c := ¬ (M.1 41 0 5) = ((-1001))) (p1 := 129) (l1 := [(0, mR 3 0 0), (2, mI v2), (3, mI v3)]) (s1 := []) (M1 := M) (p2 := 88) (l2 := [(0, mR 3 0 0), (2, mI v2), (3, mI v3), (4, mI v4)]) (s2 := []) (M2 := M) rfl).trans ?_
    refine mi_itc ?_ ?_
    · rfl
    · refine (mx_steps 1 (pc' := 89) (ls' := [(0, mR 3 0 0), (2, mI v2), (3, mI v3), (4, mI v4)]) (st' := [mR 3 0 0]) (M' := M) rfl).trans ?_
      refine (mx_callI (z := 133) (as := [mR 3 0 0]) (pc' := 92) (ls' := [(0, mR 3 0 0), (2, mI v2), (3, mI v3), (4, mI v4)]) (r := []) rfl (Or.inr rfl)).trans ?_
      refine mi_bdc fun q1 => ?_
      refine (mx_if (c := q1.1 = 0) (p1 := 129) (l1 := [(0, mR 3 0 0), (2, mI v2), (3, mI v3)]) (s1 := []) (M1 := q1.2) (p2 := 95) (l2 := [(0, mR 3 0 0), (2, mI v2), (3, mI v3), (4, mI v4)]) (s2 := []) (M2 := q1.2) rfl).trans ?_
      refine mi_itc ?_ ?_
      · rfl
      · refine (mx_steps 7 (pc' := 107) (ls' := [(0, mR 3 0 0), (2, mI v2), (3, mI v3), (4, mI v4)]) (st' := [mI (q1.2.1 41 0 4), mR 38 0 0, mI (10 * v3)]) (M' := q1.2) rfl).trans ?_
        refine (mx_ix (i := q1.2.1 41 0 4) (n := 120) (pc' := 108) (ls' := [(0, mR 3 0 0), (2, mI v2), (3, mI v3), (4, mI v4)]) (sf := fun k2 => [mI (q1.2.1 38 0 (0 + k2)), mI (10 * v3)]) (Mf := fun k2 => q1.2) rfl).trans ?_
        refine mi_bdc fun k2 => ?_
        refine (mx_steps 12 (pc' := 72) (ls' := [(0, mR 3 0 0), (2, mI v2), (3, mI (((10 * v3) + (q1.2.1 38 0 (0 + k2))) - 48)), (4, mI (v4 + 1))]) (st' := []) (M' := mi_set q1.2 41 0 4 ((q1.2.1 41 0 4) + 1)) rfl).trans ?_
        rfl

set_option maxRecDepth 20000 in
theorem fM_number_L129_eq (v2 : Int32) (v3 : Int32) (M : mM) : fM_number_L129 v2 v3 M = (if ¬ (M.1 41 0 5) = ((-1001)) then fM_number_L154 v2 v3 M else (fM_isFigure M).bind fun q1 => (if q1.1 = 0 then fM_number_L154 v2 v3 q1.2 else fM_number_L154 v2 v3 (mi_set q1.2 41 0 5 (q1.2.1 41 0 4)))) := by
  refine (mx_steps 3 (pc' := 136) (ls' := [(0, mR 3 0 0), (2, mI v2), (3, mI v3)]) (st' := [mI ((-1001)), mI (M.1 41 0 5)]) (M' := M) rfl).trans ?_
  refine (mx_if (c := ¬ (M.1 41 0 5) = ((-1001))) (p1 := 154) (l1 := [(2, mI v2), (3, mI v3)]) (s1 := []) (M1 := M) (p2 := 139) (l2 := [(0, mR 3 0 0), (2, mI v2), (3, mI v3)]) (s2 := []) (M2 := M) rfl).trans ?_
  refine mi_itc ?_ ?_
  · rfl
  · refine (mx_steps 1 (pc' := 140) (ls' := [(0, mR 3 0 0), (2, mI v2), (3, mI v3)]) (st' := [mR 3 0 0]) (M' := M) rfl).trans ?_
    refine (mx_callI (z := 133) (as := [mR 3 0 0]) (pc' := 143) (ls' := [(0, mR 3 0 0), (2, mI v2), (3, mI v3)]) (r := []) rfl (Or.inr rfl)).trans ?_
    refine mi_bdc fun q1 => ?_
    refine (mx_if (c := q1.1 = 0) (p1 := 154) (l1 := [(2, mI v2), (3, mI v3)]) (s1 := []) (M1 := q1.2) (p2 := 146) (l2 := [(0, mR 3 0 0), (2, mI v2), (3, mI v3)]) (s2 := []) (M2 := q1.2) rfl).trans ?_
    refine mi_itc ?_ ?_
    · rfl
    · refine (mx_steps 4 (pc' := 154) (ls' := [(2, mI v2), (3, mI v3)]) (st' := []) (M' := mi_set q1.2 41 0 5 (q1.2.1 41 0 4)) rfl).trans ?_
      rfl

set_option maxRecDepth 20000 in
theorem fM_number_L154_eq (v2 : Int32) (v3 : Int32) (M : mM) : fM_number_L154 v2 v3 M = (if v2 = 0 then some (v3, M) else some (-v3, M)) := by
  refine (mx_steps 1 (pc' := 155) (ls' := [(2, mI v2), (3, mI v3)]) (st' := [mI v2]) (M' := M) rfl).trans ?_
  refine (mx_if (c := v2 = 0) (p1 := 163) (l1 := [(2, mI v2), (3, mI v3)]) (s1 := []) (M1 := M) (p2 := 158) (l2 := [(2, mI v2), (3, mI v3)]) (s2 := []) (M2 := M) rfl).trans ?_
  refine mi_itc ?_ ?_
  · refine (mx_steps 1 (pc' := 164) (ls' := [(2, mI v2), (3, mI v3)]) (st' := [mI v3]) (M' := M) rfl).trans ?_
    exact mx_ret rfl rfl
  · refine (mx_steps 3 (pc' := 164) (ls' := [(2, mI v2), (3, mI v3)]) (st' := [mI (-v3)]) (M' := M) rfl).trans ?_
    exact mx_ret rfl rfl

set_option maxRecDepth 20000 in
theorem fM_numbersOf_eq (a0 : Int32) (M : mM) : fM_numbersOf a0 M = (if a0 = 107 then some (1, M) else (if a0 = 108 then some (3, M) else (if a0 = 109 then some ((-1001), M) else (if a0 = 110 then some (2, M) else (if a0 = 111 then some (3, M) else (if a0 = 112 then some ((-1001), M) else (if a0 = 113 then some ((-1001), M) else (if a0 = 114 then some ((-1001), M) else (if a0 = 115 then some (2, M) else (if a0 = 116 then some (1, M) else (if a0 = 117 then some (1, M) else some ((-1001), M)))))))))))) := by
  refine (mx_steps 1 (pc' := 1) (ls' := [(0, mI a0)]) (st' := [mI a0]) (M' := M) rfl).trans ?_
  refine (mx_table (x := a0) (lo := 107) (ts := [64, 60, 66, 62, 60, 66, 66, 66, 62, 64, 64]) (d := 66) rfl).trans ?_
  refine mi_swc (F := fun tg => mi_ex mi_pI 135 tg (mi_jmp 135 tg [(0, mI a0)]) [] M) (k := 107) rfl ?_ ?_
  · show mi_ex mi_pI 135 64 [(0, mI a0)] [] M = _
    refine (mx_steps 1 (pc' := 65) (ls' := [(0, mI a0)]) (st' := [mI 1]) (M' := M) rfl).trans ?_
    exact mx_ret rfl rfl
  refine mi_swc (F := fun tg => mi_ex mi_pI 135 tg (mi_jmp 135 tg [(0, mI a0)]) [] M) (k := 108) rfl ?_ ?_
  · show mi_ex mi_pI 135 60 [(0, mI a0)] [] M = _
    refine (mx_steps 1 (pc' := 61) (ls' := [(0, mI a0)]) (st' := [mI 3]) (M' := M) rfl).trans ?_
    exact mx_ret rfl rfl
  refine mi_swc (F := fun tg => mi_ex mi_pI 135 tg (mi_jmp 135 tg [(0, mI a0)]) [] M) (k := 109) rfl ?_ ?_
  · show mi_ex mi_pI 135 66 [(0, mI a0)] [] M = _
    refine (mx_steps 1 (pc' := 69) (ls' := [(0, mI a0)]) (st' := [mI ((-1001))]) (M' := M) rfl).trans ?_
    exact mx_ret rfl rfl
  refine mi_swc (F := fun tg => mi_ex mi_pI 135 tg (mi_jmp 135 tg [(0, mI a0)]) [] M) (k := 110) rfl ?_ ?_
  · show mi_ex mi_pI 135 62 [(0, mI a0)] [] M = _
    refine (mx_steps 1 (pc' := 63) (ls' := [(0, mI a0)]) (st' := [mI 2]) (M' := M) rfl).trans ?_
    exact mx_ret rfl rfl
  refine mi_swc (F := fun tg => mi_ex mi_pI 135 tg (mi_jmp 135 tg [(0, mI a0)]) [] M) (k := 111) rfl ?_ ?_
  · show mi_ex mi_pI 135 60 [(0, mI a0)] [] M = _
    refine (mx_steps 1 (pc' := 61) (ls' := [(0, mI a0)]) (st' := [mI 3]) (M' := M) rfl).trans ?_
    exact mx_ret rfl rfl
  refine mi_swc (F := fun tg => mi_ex mi_pI 135 tg (mi_jmp 135 tg [(0, mI a0)]) [] M) (k := 112) rfl ?_ ?_
  · show mi_ex mi_pI 135 66 [(0, mI a0)] [] M = _
    refine (mx_steps 1 (pc' := 69) (ls' := [(0, mI a0)]) (st' := [mI ((-1001))]) (M' := M) rfl).trans ?_
    exact mx_ret rfl rfl
  refine mi_swc (F := fun tg => mi_ex mi_pI 135 tg (mi_jmp 135 tg [(0, mI a0)]) [] M) (k := 113) rfl ?_ ?_
  · show mi_ex mi_pI 135 66 [(0, mI a0)] [] M = _
    refine (mx_steps 1 (pc' := 69) (ls' := [(0, mI a0)]) (st' := [mI ((-1001))]) (M' := M) rfl).trans ?_
    exact mx_ret rfl rfl
  refine mi_swc (F := fun tg => mi_ex mi_pI 135 tg (mi_jmp 135 tg [(0, mI a0)]) [] M) (k := 114) rfl ?_ ?_
  · show mi_ex mi_pI 135 66 [(0, mI a0)] [] M = _
    refine (mx_steps 1 (pc' := 69) (ls' := [(0, mI a0)]) (st' := [mI ((-1001))]) (M' := M) rfl).trans ?_
    exact mx_ret rfl rfl
  refine mi_swc (F := fun tg => mi_ex mi_pI 135 tg (mi_jmp 135 tg [(0, mI a0)]) [] M) (k := 115) rfl ?_ ?_
  · show mi_ex mi_pI 135 62 [(0, mI a0)] [] M = _
    refine (mx_steps 1 (pc' := 63) (ls' := [(0, mI a0)]) (st' := [mI 2]) (M' := M) rfl).trans ?_
    exact mx_ret rfl rfl
  refine mi_swc (F := fun tg => mi_ex mi_pI 135 tg (mi_jmp 135 tg [(0, mI a0)]) [] M) (k := 116) rfl ?_ ?_
  · show mi_ex mi_pI 135 64 [(0, mI a0)] [] M = _
    refine (mx_steps 1 (pc' := 65) (ls' := [(0, mI a0)]) (st' := [mI 1]) (M' := M) rfl).trans ?_
    exact mx_ret rfl rfl
  refine mi_swc (F := fun tg => mi_ex mi_pI 135 tg (mi_jmp 135 tg [(0, mI a0)]) [] M) (k := 117) rfl ?_ ?_
  · show mi_ex mi_pI 135 64 [(0, mI a0)] [] M = _
    refine (mx_steps 1 (pc' := 65) (ls' := [(0, mI a0)]) (st' := [mI 1]) (M' := M) rfl).trans ?_
    exact mx_ret rfl rfl
  show mi_ex mi_pI 135 66 [(0, mI a0)] [] M = _
  refine (mx_steps 1 (pc' := 69) (ls' := [(0, mI a0)]) (st' := [mI ((-1001))]) (M' := M) rfl).trans ?_
  exact mx_ret rfl rfl

set_option maxRecDepth 20000 in
theorem fM_readOrder_eq (M : mM) : fM_readOrder M = (fM_here M).bind fun q1 => (fM_numbersOf q1.1 q1.2).bind fun q2 => (if q2.1 = ((-1001)) then (fM_must 0 q2.2).bind fun M3 => fM_readOrder_L28 q1.1 q2.1 0 M3 else (fM_must 1 q2.2).bind fun M4 => fM_readOrder_L28 q1.1 q2.1 0 M4) := by
  refine (mx_steps 1 (pc' := 1) (ls' := [(0, mR 3 0 0)]) (st' := [mR 3 0 0]) (M' := M) rfl).trans ?_
  refine (mx_callI (z := 131) (as := [mR 3 0 0]) (pc' := 4) (ls' := [(0, mR 3 0 0)]) (r := []) rfl (Or.inl rfl)).trans ?_
  refine mi_bdc fun q1 => ?_
  refine (mx_steps 2 (pc' := 6) (ls' := [(0, mR 3 0 0), (1, mI q1.1)]) (st' := [mI q1.1]) (M' := q1.2) rfl).trans ?_
  refine (mx_callI (z := 135) (as := [mI q1.1]) (pc' := 9) (ls' := [(0, mR 3 0 0), (1, mI q1.1)]) (r := []) rfl (Or.inl rfl)).trans ?_
  refine mi_bdc fun q2 => ?_
  refine (mx_steps 4 (pc' := 15) (ls' := [(0, mR 3 0 0), (1, mI q1.1), (2, mI q2.1)]) (st' := [mI ((-1001)), mI q2.1, mR 3 0 0]) (M' := q2.2) rfl).trans ?_
  refine (mx_if (c := q2.1 = ((-1001))) (p1 := 22) (l1 := [(0, mR 3 0 0), (1, mI q1.1), (2, mI q2.1)]) (s1 := [mR 3 0 0]) (M1 := q2.2) (p2 := 18) (l2 := [(0, mR 3 0 0), (1, mI q1.1), (2, mI q2.1)]) (s2 := [mR 3 0 0]) (M2 := q2.2) rfl).trans ?_
  refine mi_itc ?_ ?_
  · refine (mx_steps 1 (pc' := 23) (ls' := [(0, mR 3 0 0), (1, mI q1.1), (2, mI q2.1)]) (st' := [mI 0, mR 3 0 0]) (M' := q2.2) rfl).trans ?_
    refine (mx_callV (z := 132) (as := [mR 3 0 0, mI 0]) (pc' := 26) (ls' := [(0, mR 3 0 0), (1, mI q1.1), (2, mI q2.1)]) (r := []) rfl rfl).trans ?_
    refine mi_bdc fun M3 => ?_
    refine (mx_steps 2 (pc' := 28) (ls' := [(0, mR 3 0 0), (1, mI q1.1), (2, mI q2.1), (3, mI 0)]) (st' := []) (M' := M3) rfl).trans ?_
    rfl
  · refine (mx_steps 2 (pc' := 23) (ls' := [(0, mR 3 0 0), (1, mI q1.1), (2, mI q2.1)]) (st' := [mI 1, mR 3 0 0]) (M' := q2.2) rfl).trans ?_
    refine (mx_callV (z := 132) (as := [mR 3 0 0, mI 1]) (pc' := 26) (ls' := [(0, mR 3 0 0), (1, mI q1.1), (2, mI q2.1)]) (r := []) rfl rfl).trans ?_
    refine mi_bdc fun M4 => ?_
    refine (mx_steps 2 (pc' := 28) (ls' := [(0, mR 3 0 0), (1, mI q1.1), (2, mI q2.1), (3, mI 0)]) (st' := []) (M' := M4) rfl).trans ?_
    rfl

set_option maxRecDepth 20000 in
theorem fM_readOrder_L28_eq (v1 : Int32) (v2 : Int32) (v3 : Int32) (M : mM) : fM_readOrder_L28 v1 v2 v3 M = (if v2 ≤ v3 then fM_readOrder_L90 v1 M else (if ¬ (M.1 41 0 5) = ((-1001)) then fM_readOrder_L90 v1 M else (if ¬ v3 = (v2 - 1) then fM_readOrder_L79 v1 v2 v3 ((3 * (M.1 41 0 6)) + v3) M else (if v1 = 110 then fM_readOrder_L75 v1 v2 v3 ((3 * (M.1 41 0 6)) + v3) M else (if ¬ v1 = 111 then fM_readOrder_L79 v1 v2 v3 ((3 * (M.1 41 0 6)) + v3) M else fM_readOrder_L75 v1 v2 v3 ((3 * (M.1 41 0 6)) + v3) M))))) := by
  refine (mx_steps 2 (pc' := 30) (ls' := [(0, mR 3 0 0), (1, mI v1), (2, mI v2), (3, mI v3)]) (st' := [mI v2, mI v3]) (M' := M) rfl).trans ?_
  refine (mx_if (c := v2 ≤ v3) (p1 := 90) (l1 := [(0, mR 3 0 0), (1, mI v1)]) (s1 := []) (M1 := M) (p2 := 33) (l2 := [(0, mR 3 0 0), (1, mI v1), (2, mI v2), (3, mI v3)]) (s2 := []) (M2 := M) rfl).trans ?_
  refine mi_itc ?_ ?_
  · rfl
  · refine (mx_steps 3 (pc' := 40) (ls' := [(0, mR 3 0 0), (1, mI v1), (2, mI v2), (3, mI v3)]) (st' := [mI ((-1001)), mI (M.1 41 0 5)]) (M' := M) rfl).trans ?_
    refine (mx_if (c := ¬ (M.1 41 0 5) = ((-1001))) (p1 := 90) (l1 := [(0, mR 3 0 0), (1, mI v1)]) (s1 := []) (M1 := M) (p2 := 43) (l2 := [(0, mR 3 0 0), (1, mI v1), (2, mI v2), (3, mI v3)]) (s2 := []) (M2 := M) rfl).trans ?_
    refine mi_itc ?_ ?_
    · rfl
    · refine (mx_steps 13 (pc' := 60) (ls' := [(0, mR 3 0 0), (1, mI v1), (2, mI v2), (3, mI v3)]) (st' := [mI (v2 - 1), mI v3, mR 3 0 0, mI ((3 * (M.1 41 0 6)) + v3), mR 40 0 0]) (M' := M) rfl).trans ?_
      refine (mx_if (c := ¬ v3 = (v2 - 1)) (p1 := 79) (l1 := [(0, mR 3 0 0), (1, mI v1), (2, mI v2), (3, mI v3)]) (s1 := [mR 3 0 0, mI ((3 * (M.1 41 0 6)) + v3), mR 40 0 0]) (M1 := M) (p2 := 63) (l2 := [(0, mR 3 0 0), (1, mI v1), (2, mI v2), (3, mI v3)]) (s2 := [mR 3 0 0, mI ((3 * (M.1 41 0 6)) + v3), mR 40 0 0]) (M2 := M) rfl).trans ?_
      refine mi_itc ?_ ?_
      · rfl
      · refine (mx_steps 2 (pc' := 66) (ls' := [(0, mR 3 0 0), (1, mI v1), (2, mI v2), (3, mI v3)]) (st' := [mI 110, mI v1, mR 3 0 0, mI ((3 * (M.1 41 0 6)) + v3), mR 40 0 0]) (M' := M) rfl).trans ?_
        refine (mx_if (c := v1 = 110) (p1 := 75) (l1 := [(0, mR 3 0 0), (1, mI v1), (2, mI v2), (3, mI v3)]) (s1 := [mR 3 0 0, mI ((3 * (M.1 41 0 6)) + v3), mR 40 0 0]) (M1 := M) (p2 := 69) (l2 := [(0, mR 3 0 0), (1, mI v1), (2, mI v2), (3, mI v3)]) (s2 := [mR 3 0 0, mI ((3 * (M.1 41 0 6)) + v3), mR 40 0 0]) (M2 := M) rfl).trans ?_
        refine mi_itc ?_ ?_
        · rfl
        · refine (mx_steps 2 (pc' := 72) (ls' := [(0, mR 3 0 0), (1, mI v1), (2, mI v2), (3, mI v3)]) (st' := [mI 111, mI v1, mR 3 0 0, mI ((3 * (M.1 41 0 6)) + v3), mR 40 0 0]) (M' := M) rfl).trans ?_
          refine (mx_if (c := ¬ v1 = 111) (p1 := 79) (l1 := [(0, mR 3 0 0), (1, mI v1), (2, mI v2), (3, mI v3)]) (s1 := [mR 3 0 0, mI ((3 * (M.1 41 0 6)) + v3), mR 40 0 0]) (M1 := M) (p2 := 75) (l2 := [(0, mR 3 0 0), (1, mI v1), (2, mI v2), (3, mI v3)]) (s2 := [mR 3 0 0, mI ((3 * (M.1 41 0 6)) + v3), mR 40 0 0]) (M2 := M) rfl).trans ?_
          refine mi_itc ?_ ?_
          · rfl
          · rfl

set_option maxRecDepth 20000 in
theorem fM_readOrder_L90_eq (v1 : Int32) (M : mM) : fM_readOrder_L90 v1 M = (if ¬ (M.1 41 0 5) = ((-1001)) then some M else (mi_ix (M.1 41 0 6) 40).bind fun k1 => (fM_here (mi_set (mi_set M 39 0 (0 + k1) v1) 41 0 6 (((mi_set M 39 0 (0 + k1) v1).1 41 0 6) + 1))).bind fun q2 => (if ¬ q2.1 = 59 then (fM_must 0 q2.2).bind fun M3 => some M3 else (fM_must 1 q2.2).bind fun M4 => some M4)) := by
  refine (mx_steps 3 (pc' := 97) (ls' := [(0, mR 3 0 0), (1, mI v1)]) (st' := [mI ((-1001)), mI (M.1 41 0 5)]) (M' := M) rfl).trans ?_
  refine (mx_if (c := ¬ (M.1 41 0 5) = ((-1001))) (p1 := 138) (l1 := [(0, mR 3 0 0), (1, mI v1)]) (s1 := []) (M1 := M) (p2 := 100) (l2 := [(0, mR 3 0 0), (1, mI v1)]) (s2 := []) (M2 := M) rfl).trans ?_
  refine mi_itc ?_ ?_
  · exact mx_ret rfl rfl
  · refine (mx_steps 5 (pc' := 109) (ls' := [(0, mR 3 0 0), (1, mI v1)]) (st' := [mI v1, mI (M.1 41 0 6), mR 39 0 0]) (M' := M) rfl).trans ?_
    refine (mx_ix (i := M.1 41 0 6) (n := 40) (pc' := 110) (ls' := [(0, mR 3 0 0), (1, mI v1)]) (sf := fun k1 => []) (Mf := fun k1 => mi_set M 39 0 (0 + k1) v1) rfl).trans ?_
    refine mi_bdc fun k1 => ?_
    refine (mx_steps 8 (pc' := 122) (ls' := [(0, mR 3 0 0), (1, mI v1)]) (st' := [mR 3 0 0, mR 3 0 0]) (M' := mi_set (mi_set M 39 0 (0 + k1) v1) 41 0 6 (((mi_set M 39 0 (0 + k1) v1).1 41 0 6) + 1)) rfl).trans ?_
    refine (mx_callI (z := 131) (as := [mR 3 0 0]) (pc' := 125) (ls' := [(0, mR 3 0 0), (1, mI v1)]) (r := [mR 3 0 0]) rfl (Or.inl rfl)).trans ?_
    refine mi_bdc fun q2 => ?_
    refine (mx_steps 1 (pc' := 127) (ls' := [(0, mR 3 0 0), (1, mI v1)]) (st' := [mI 59, mI q2.1, mR 3 0 0]) (M' := q2.2) rfl).trans ?_
    refine (mx_if (c := ¬ q2.1 = 59) (p1 := 134) (l1 := [(0, mR 3 0 0), (1, mI v1)]) (s1 := [mR 3 0 0]) (M1 := q2.2) (p2 := 130) (l2 := [(0, mR 3 0 0), (1, mI v1)]) (s2 := [mR 3 0 0]) (M2 := q2.2) rfl).trans ?_
    refine mi_itc ?_ ?_
    · refine (mx_steps 1 (pc' := 135) (ls' := [(0, mR 3 0 0), (1, mI v1)]) (st' := [mI 0, mR 3 0 0]) (M' := q2.2) rfl).trans ?_
      refine (mx_callV (z := 132) (as := [mR 3 0 0, mI 0]) (pc' := 138) (ls' := [(0, mR 3 0 0), (1, mI v1)]) (r := []) rfl rfl).trans ?_
      refine mi_bdc fun M3 => ?_
      exact mx_ret rfl rfl
    · refine (mx_steps 2 (pc' := 135) (ls' := [(0, mR 3 0 0), (1, mI v1)]) (st' := [mI 1, mR 3 0 0]) (M' := q2.2) rfl).trans ?_
      refine (mx_callV (z := 132) (as := [mR 3 0 0, mI 1]) (pc' := 138) (ls' := [(0, mR 3 0 0), (1, mI v1)]) (r := []) rfl rfl).trans ?_
      refine mi_bdc fun M4 => ?_
      exact mx_ret rfl rfl

set_option maxRecDepth 20000 in
theorem fM_readOrder_L79_eq (v1 : Int32) (v2 : Int32) (v3 : Int32) (s1 : Int32) (M : mM) : fM_readOrder_L79 v1 v2 v3 s1 M = fM_readOrder_L80 v1 v2 v3 s1 0 M := by
  refine (mx_steps 1 (pc' := 80) (ls' := [(0, mR 3 0 0), (1, mI v1), (2, mI v2), (3, mI v3)]) (st' := [mI 0, mR 3 0 0, mI s1, mR 40 0 0]) (M' := M) rfl).trans ?_
  rfl

set_option maxRecDepth 20000 in
theorem fM_readOrder_L75_eq (v1 : Int32) (v2 : Int32) (v3 : Int32) (s1 : Int32) (M : mM) : fM_readOrder_L75 v1 v2 v3 s1 M = fM_readOrder_L80 v1 v2 v3 s1 1 M := by
  refine (mx_steps 2 (pc' := 80) (ls' := [(0, mR 3 0 0), (1, mI v1), (2, mI v2), (3, mI v3)]) (st' := [mI 1, mR 3 0 0, mI s1, mR 40 0 0]) (M' := M) rfl).trans ?_
  rfl

set_option maxRecDepth 20000 in
theorem fM_readOrder_L80_eq (v1 : Int32) (v2 : Int32) (v3 : Int32) (s1 : Int32) (s3 : Int32) (M : mM) : fM_readOrder_L80 v1 v2 v3 s1 s3 M = (fM_number s3 M).bind fun q1 => (mi_ix s1 120).bind fun k2 => fM_readOrder_L28 v1 v2 (v3 + 1) (mi_set q1.2 40 0 (0 + k2) q1.1) := by
  refine (mx_callI (z := 134) (as := [mR 3 0 0, mI s3]) (pc' := 83) (ls' := [(0, mR 3 0 0), (1, mI v1), (2, mI v2), (3, mI v3)]) (r := [mI s1, mR 40 0 0]) rfl (Or.inl rfl)).trans ?_
  refine mi_bdc fun q1 => ?_
  refine (mx_ix (i := s1) (n := 120) (pc' := 84) (ls' := [(0, mR 3 0 0), (1, mI v1), (2, mI v2), (3, mI v3)]) (sf := fun k2 => []) (Mf := fun k2 => mi_set q1.2 40 0 (0 + k2) q1.1) rfl).trans ?_
  refine mi_bdc fun k2 => ?_
  refine (mx_steps 2 (pc' := 28) (ls' := [(0, mR 3 0 0), (1, mI v1), (2, mI v2), (3, mI (v3 + 1))]) (st' := []) (M' := mi_set q1.2 40 0 (0 + k2) q1.1) rfl).trans ?_
  rfl

set_option maxRecDepth 20000 in
theorem fM_doOrder_eq (a1 : Int32) (M : mM) : fM_doOrder a1 M = (mi_ix (3 * a1) 120).bind fun k1 => (mi_ix ((3 * a1) + 1) 120).bind fun k2 => (mi_ix ((3 * a1) + 2) 120).bind fun k3 => (mi_ix a1 40).bind fun k4 => (if (M.1 39 0 (0 + k4)) = 107 then (fM_doLooks (M.1 40 0 (0 + k1)) M).bind fun q5 => some (q5.1, q5.2) else (if (M.1 39 0 (0 + k4)) = 108 then (fM_doLink (M.1 40 0 (0 + k1)) (M.1 40 0 (0 + k2)) (M.1 40 0 (0 + k3)) M).bind fun q6 => some (q6.1, q6.2) else (if (M.1 39 0 (0 + k4)) = 109 then (fM_doTicks (M.1 40 0 (0 + k1)) M).bind fun q7 => some (q7.1, q7.2) else (if (M.1 39 0 (0 + k4)) = 110 then (fM_doNode (M.1 40 0 (0 + k1)) (M.1 40 0 (0 + k2)) M).bind fun q8 => some (q8.1, q8.2) else (if (M.1 39 0 (0 + k4)) = 111 then (fM_doOwns (M.1 40 0 (0 + k1)) (M.1 40 0 (0 + k2)) (M.1 40 0 (0 + k3)) M).bind fun q9 => some (q9.1, q9.2) else (if (M.1 39 0 (0 + k4)) = 112 then (fM_doTicks (M.1 40 0 (0 + k1)) M).bind fun q10 => some (q10.1, q10.2) else (if (M.1 39 0 (0 + k4)) = 113 then (fM_doTicks (M.1 40 0 (0 + k1)) M).bind fun q11 => some (q11.1, q11.2) else (if (M.1 39 0 (0 + k4)) = 114 then (fM_doTicks (M.1 40 0 (0 + k1)) M).bind fun q12 => some (q12.1, q12.2) else (if (M.1 39 0 (0 + k4)) = 115 then (fM_doSets (M.1 40 0 (0 + k1)) (M.1 40 0 (0 + k2)) M).bind fun q13 => some (q13.1, q13.2) else (if (M.1 39 0 (0 + k4)) = 116 then (fM_doTicks (M.1 40 0 (0 + k1)) M).bind fun q14 => some (q14.1, q14.2) else (if (M.1 39 0 (0 + k4)) = 117 then (fM_doTurns (M.1 40 0 (0 + k1)) M).bind fun q15 => some (q15.1, q15.2) else (fM_doTicks (M.1 40 0 (0 + k1)) M).bind fun q16 => some (q16.1, q16.2)))))))))))) := by
  refine (mx_steps 5 (pc' := 7) (ls' := [(0, mR 3 0 0), (1, mI a1)]) (st' := [mI (3 * a1), mR 40 0 0]) (M' := M) rfl).trans ?_
  refine (mx_ix (i := 3 * a1) (n := 120) (pc' := 8) (ls' := [(0, mR 3 0 0), (1, mI a1)]) (sf := fun k1 => [mI (M.1 40 0 (0 + k1))]) (Mf := fun k1 => M) rfl).trans ?_
  refine mi_bdc fun k1 => ?_
  refine (mx_steps 8 (pc' := 18) (ls' := [(0, mR 3 0 0), (1, mI a1), (2, mI (M.1 40 0 (0 + k1)))]) (st' := [mI ((3 * a1) + 1), mR 40 0 0]) (M' := M) rfl).trans ?_
  refine (mx_ix (i := (3 * a1) + 1) (n := 120) (pc' := 19) (ls' := [(0, mR 3 0 0), (1, mI a1), (2, mI (M.1 40 0 (0 + k1)))]) (sf := fun k2 => [mI (M.1 40 0 (0 + k2))]) (Mf := fun k2 => M) rfl).trans ?_
  refine mi_bdc fun k2 => ?_
  refine (mx_steps 8 (pc' := 29) (ls' := [(0, mR 3 0 0), (1, mI a1), (2, mI (M.1 40 0 (0 + k1))), (3, mI (M.1 40 0 (0 + k2)))]) (st' := [mI ((3 * a1) + 2), mR 40 0 0]) (M' := M) rfl).trans ?_
  refine (mx_ix (i := (3 * a1) + 2) (n := 120) (pc' := 30) (ls' := [(0, mR 3 0 0), (1, mI a1), (2, mI (M.1 40 0 (0 + k1))), (3, mI (M.1 40 0 (0 + k2)))]) (sf := fun k3 => [mI (M.1 40 0 (0 + k3))]) (Mf := fun k3 => M) rfl).trans ?_
  refine mi_bdc fun k3 => ?_
  refine (mx_steps 4 (pc' := 37) (ls' := [(0, mR 3 0 0), (1, mI a1), (2, mI (M.1 40 0 (0 + k1))), (3, mI (M.1 40 0 (0 + k2))), (4, mI (M.1 40 0 (0 + k3)))]) (st' := [mI a1, mR 39 0 0]) (M' := M) rfl).trans ?_
  refine (mx_ix (i := a1) (n := 40) (pc' := 38) (ls' := [(0, mR 3 0 0), (1, mI a1), (2, mI (M.1 40 0 (0 + k1))), (3, mI (M.1 40 0 (0 + k2))), (4, mI (M.1 40 0 (0 + k3)))]) (sf := fun k4 => [mI (M.1 39 0 (0 + k4))]) (Mf := fun k4 => M) rfl).trans ?_
  refine mi_bdc fun k4 => ?_
  refine (mx_table (x := (M.1 39 0 (0 + k4))) (lo := 107) (ts := [134, 103, 140, 96, 112, 140, 140, 140, 127, 140, 121]) (d := 140) rfl).trans ?_
  refine mi_swc (F := fun tg => mi_ex mi_pI 137 tg (mi_jmp 137 tg [(0, mR 3 0 0), (1, mI a1), (2, mI (M.1 40 0 (0 + k1))), (3, mI (M.1 40 0 (0 + k2))), (4, mI (M.1 40 0 (0 + k3)))]) [] M) (k := 107) rfl ?_ ?_
  · show mi_ex mi_pI 137 134 [(0, mR 3 0 0), (1, mI a1), (2, mI (M.1 40 0 (0 + k1))), (3, mI (M.1 40 0 (0 + k2))), (4, mI (M.1 40 0 (0 + k3)))] [] M = _
    refine (mx_steps 2 (pc' := 136) (ls' := [(0, mR 3 0 0), (1, mI a1), (2, mI (M.1 40 0 (0 + k1))), (3, mI (M.1 40 0 (0 + k2))), (4, mI (M.1 40 0 (0 + k3)))]) (st' := [mI (M.1 40 0 (0 + k1)), mR 3 0 0]) (M' := M) rfl).trans ?_
    refine (mx_callI (z := 98) (as := [mR 3 0 0, mI (M.1 40 0 (0 + k1))]) (pc' := 139) (ls' := [(0, mR 3 0 0), (1, mI a1), (2, mI (M.1 40 0 (0 + k1))), (3, mI (M.1 40 0 (0 + k2))), (4, mI (M.1 40 0 (0 + k3)))]) (r := []) rfl (Or.inl rfl)).trans ?_
    refine mi_bdc fun q5 => ?_
    exact mx_ret rfl rfl
  refine mi_swc (F := fun tg => mi_ex mi_pI 137 tg (mi_jmp 137 tg [(0, mR 3 0 0), (1, mI a1), (2, mI (M.1 40 0 (0 + k1))), (3, mI (M.1 40 0 (0 + k2))), (4, mI (M.1 40 0 (0 + k3)))]) [] M) (k := 108) rfl ?_ ?_
  · show mi_ex mi_pI 137 103 [(0, mR 3 0 0), (1, mI a1), (2, mI (M.1 40 0 (0 + k1))), (3, mI (M.1 40 0 (0 + k2))), (4, mI (M.1 40 0 (0 + k3)))] [] M = _
    refine (mx_steps 4 (pc' := 108) (ls' := [(0, mR 3 0 0), (1, mI a1), (2, mI (M.1 40 0 (0 + k1))), (3, mI (M.1 40 0 (0 + k2))), (4, mI (M.1 40 0 (0 + k3)))]) (st' := [mI (M.1 40 0 (0 + k3)), mI (M.1 40 0 (0 + k2)), mI (M.1 40 0 (0 + k1)), mR 3 0 0]) (M' := M) rfl).trans ?_
    refine (mx_callI (z := 87) (as := [mR 3 0 0, mI (M.1 40 0 (0 + k1)), mI (M.1 40 0 (0 + k2)), mI (M.1 40 0 (0 + k3))]) (pc' := 111) (ls' := [(0, mR 3 0 0), (1, mI a1), (2, mI (M.1 40 0 (0 + k1))), (3, mI (M.1 40 0 (0 + k2))), (4, mI (M.1 40 0 (0 + k3)))]) (r := []) rfl (Or.inl rfl)).trans ?_
    refine mi_bdc fun q6 => ?_
    exact mx_ret rfl rfl
  refine mi_swc (F := fun tg => mi_ex mi_pI 137 tg (mi_jmp 137 tg [(0, mR 3 0 0), (1, mI a1), (2, mI (M.1 40 0 (0 + k1))), (3, mI (M.1 40 0 (0 + k2))), (4, mI (M.1 40 0 (0 + k3)))]) [] M) (k := 109) rfl ?_ ?_
  · show mi_ex mi_pI 137 140 [(0, mR 3 0 0), (1, mI a1), (2, mI (M.1 40 0 (0 + k1))), (3, mI (M.1 40 0 (0 + k2))), (4, mI (M.1 40 0 (0 + k3)))] [] M = _
    refine (mx_steps 2 (pc' := 142) (ls' := [(0, mR 3 0 0), (1, mI a1), (2, mI (M.1 40 0 (0 + k1))), (3, mI (M.1 40 0 (0 + k2))), (4, mI (M.1 40 0 (0 + k3)))]) (st' := [mI (M.1 40 0 (0 + k1)), mR 3 0 0]) (M' := M) rfl).trans ?_
    refine (mx_callI (z := 102) (as := [mR 3 0 0, mI (M.1 40 0 (0 + k1))]) (pc' := 145) (ls' := [(0, mR 3 0 0), (1, mI a1), (2, mI (M.1 40 0 (0 + k1))), (3, mI (M.1 40 0 (0 + k2))), (4, mI (M.1 40 0 (0 + k3)))]) (r := []) rfl (Or.inl rfl)).trans ?_
    refine mi_bdc fun q7 => ?_
    exact mx_ret rfl rfl
  refine mi_swc (F := fun tg => mi_ex mi_pI 137 tg (mi_jmp 137 tg [(0, mR 3 0 0), (1, mI a1), (2, mI (M.1 40 0 (0 + k1))), (3, mI (M.1 40 0 (0 + k2))), (4, mI (M.1 40 0 (0 + k3)))]) [] M) (k := 110) rfl ?_ ?_
  · show mi_ex mi_pI 137 96 [(0, mR 3 0 0), (1, mI a1), (2, mI (M.1 40 0 (0 + k1))), (3, mI (M.1 40 0 (0 + k2))), (4, mI (M.1 40 0 (0 + k3)))] [] M = _
    refine (mx_steps 3 (pc' := 99) (ls' := [(0, mR 3 0 0), (1, mI a1), (2, mI (M.1 40 0 (0 + k1))), (3, mI (M.1 40 0 (0 + k2))), (4, mI (M.1 40 0 (0 + k3)))]) (st' := [mI (M.1 40 0 (0 + k2)), mI (M.1 40 0 (0 + k1)), mR 3 0 0]) (M' := M) rfl).trans ?_
    refine (mx_callI (z := 84) (as := [mR 3 0 0, mI (M.1 40 0 (0 + k1)), mI (M.1 40 0 (0 + k2))]) (pc' := 102) (ls' := [(0, mR 3 0 0), (1, mI a1), (2, mI (M.1 40 0 (0 + k1))), (3, mI (M.1 40 0 (0 + k2))), (4, mI (M.1 40 0 (0 + k3)))]) (r := []) rfl (Or.inl rfl)).trans ?_
    refine mi_bdc fun q8 => ?_
    exact mx_ret rfl rfl
  refine mi_swc (F := fun tg => mi_ex mi_pI 137 tg (mi_jmp 137 tg [(0, mR 3 0 0), (1, mI a1), (2, mI (M.1 40 0 (0 + k1))), (3, mI (M.1 40 0 (0 + k2))), (4, mI (M.1 40 0 (0 + k3)))]) [] M) (k := 111) rfl ?_ ?_
  · show mi_ex mi_pI 137 112 [(0, mR 3 0 0), (1, mI a1), (2, mI (M.1 40 0 (0 + k1))), (3, mI (M.1 40 0 (0 + k2))), (4, mI (M.1 40 0 (0 + k3)))] [] M = _
    refine (mx_steps 4 (pc' := 117) (ls' := [(0, mR 3 0 0), (1, mI a1), (2, mI (M.1 40 0 (0 + k1))), (3, mI (M.1 40 0 (0 + k2))), (4, mI (M.1 40 0 (0 + k3)))]) (st' := [mI (M.1 40 0 (0 + k3)), mI (M.1 40 0 (0 + k2)), mI (M.1 40 0 (0 + k1)), mR 3 0 0]) (M' := M) rfl).trans ?_
    refine (mx_callI (z := 88) (as := [mR 3 0 0, mI (M.1 40 0 (0 + k1)), mI (M.1 40 0 (0 + k2)), mI (M.1 40 0 (0 + k3))]) (pc' := 120) (ls' := [(0, mR 3 0 0), (1, mI a1), (2, mI (M.1 40 0 (0 + k1))), (3, mI (M.1 40 0 (0 + k2))), (4, mI (M.1 40 0 (0 + k3)))]) (r := []) rfl (Or.inl rfl)).trans ?_
    refine mi_bdc fun q9 => ?_
    exact mx_ret rfl rfl
  refine mi_swc (F := fun tg => mi_ex mi_pI 137 tg (mi_jmp 137 tg [(0, mR 3 0 0), (1, mI a1), (2, mI (M.1 40 0 (0 + k1))), (3, mI (M.1 40 0 (0 + k2))), (4, mI (M.1 40 0 (0 + k3)))]) [] M) (k := 112) rfl ?_ ?_
  · show mi_ex mi_pI 137 140 [(0, mR 3 0 0), (1, mI a1), (2, mI (M.1 40 0 (0 + k1))), (3, mI (M.1 40 0 (0 + k2))), (4, mI (M.1 40 0 (0 + k3)))] [] M = _
    refine (mx_steps 2 (pc' := 142) (ls' := [(0, mR 3 0 0), (1, mI a1), (2, mI (M.1 40 0 (0 + k1))), (3, mI (M.1 40 0 (0 + k2))), (4, mI (M.1 40 0 (0 + k3)))]) (st' := [mI (M.1 40 0 (0 + k1)), mR 3 0 0]) (M' := M) rfl).trans ?_
    refine (mx_callI (z := 102) (as := [mR 3 0 0, mI (M.1 40 0 (0 + k1))]) (pc' := 145) (ls' := [(0, mR 3 0 0), (1, mI a1), (2, mI (M.1 40 0 (0 + k1))), (3, mI (M.1 40 0 (0 + k2))), (4, mI (M.1 40 0 (0 + k3)))]) (r := []) rfl (Or.inl rfl)).trans ?_
    refine mi_bdc fun q10 => ?_
    exact mx_ret rfl rfl
  refine mi_swc (F := fun tg => mi_ex mi_pI 137 tg (mi_jmp 137 tg [(0, mR 3 0 0), (1, mI a1), (2, mI (M.1 40 0 (0 + k1))), (3, mI (M.1 40 0 (0 + k2))), (4, mI (M.1 40 0 (0 + k3)))]) [] M) (k := 113) rfl ?_ ?_
  · show mi_ex mi_pI 137 140 [(0, mR 3 0 0), (1, mI a1), (2, mI (M.1 40 0 (0 + k1))), (3, mI (M.1 40 0 (0 + k2))), (4, mI (M.1 40 0 (0 + k3)))] [] M = _
    refine (mx_steps 2 (pc' := 142) (ls' := [(0, mR 3 0 0), (1, mI a1), (2, mI (M.1 40 0 (0 + k1))), (3, mI (M.1 40 0 (0 + k2))), (4, mI (M.1 40 0 (0 + k3)))]) (st' := [mI (M.1 40 0 (0 + k1)), mR 3 0 0]) (M' := M) rfl).trans ?_
    refine (mx_callI (z := 102) (as := [mR 3 0 0, mI (M.1 40 0 (0 + k1))]) (pc' := 145) (ls' := [(0, mR 3 0 0), (1, mI a1), (2, mI (M.1 40 0 (0 + k1))), (3, mI (M.1 40 0 (0 + k2))), (4, mI (M.1 40 0 (0 + k3)))]) (r := []) rfl (Or.inl rfl)).trans ?_
    refine mi_bdc fun q11 => ?_
    exact mx_ret rfl rfl
  refine mi_swc (F := fun tg => mi_ex mi_pI 137 tg (mi_jmp 137 tg [(0, mR 3 0 0), (1, mI a1), (2, mI (M.1 40 0 (0 + k1))), (3, mI (M.1 40 0 (0 + k2))), (4, mI (M.1 40 0 (0 + k3)))]) [] M) (k := 114) rfl ?_ ?_
  · show mi_ex mi_pI 137 140 [(0, mR 3 0 0), (1, mI a1), (2, mI (M.1 40 0 (0 + k1))), (3, mI (M.1 40 0 (0 + k2))), (4, mI (M.1 40 0 (0 + k3)))] [] M = _
    refine (mx_steps 2 (pc' := 142) (ls' := [(0, mR 3 0 0), (1, mI a1), (2, mI (M.1 40 0 (0 + k1))), (3, mI (M.1 40 0 (0 + k2))), (4, mI (M.1 40 0 (0 + k3)))]) (st' := [mI (M.1 40 0 (0 + k1)), mR 3 0 0]) (M' := M) rfl).trans ?_
    refine (mx_callI (z := 102) (as := [mR 3 0 0, mI (M.1 40 0 (0 + k1))]) (pc' := 145) (ls' := [(0, mR 3 0 0), (1, mI a1), (2, mI (M.1 40 0 (0 + k1))), (3, mI (M.1 40 0 (0 + k2))), (4, mI (M.1 40 0 (0 + k3)))]) (r := []) rfl (Or.inl rfl)).trans ?_
    refine mi_bdc fun q12 => ?_
    exact mx_ret rfl rfl
  refine mi_swc (F := fun tg => mi_ex mi_pI 137 tg (mi_jmp 137 tg [(0, mR 3 0 0), (1, mI a1), (2, mI (M.1 40 0 (0 + k1))), (3, mI (M.1 40 0 (0 + k2))), (4, mI (M.1 40 0 (0 + k3)))]) [] M) (k := 115) rfl ?_ ?_
  · show mi_ex mi_pI 137 127 [(0, mR 3 0 0), (1, mI a1), (2, mI (M.1 40 0 (0 + k1))), (3, mI (M.1 40 0 (0 + k2))), (4, mI (M.1 40 0 (0 + k3)))] [] M = _
    refine (mx_steps 3 (pc' := 130) (ls' := [(0, mR 3 0 0), (1, mI a1), (2, mI (M.1 40 0 (0 + k1))), (3, mI (M.1 40 0 (0 + k2))), (4, mI (M.1 40 0 (0 + k3)))]) (st' := [mI (M.1 40 0 (0 + k2)), mI (M.1 40 0 (0 + k1)), mR 3 0 0]) (M' := M) rfl).trans ?_
    refine (mx_callI (z := 90) (as := [mR 3 0 0, mI (M.1 40 0 (0 + k1)), mI (M.1 40 0 (0 + k2))]) (pc' := 133) (ls' := [(0, mR 3 0 0), (1, mI a1), (2, mI (M.1 40 0 (0 + k1))), (3, mI (M.1 40 0 (0 + k2))), (4, mI (M.1 40 0 (0 + k3)))]) (r := []) rfl (Or.inl rfl)).trans ?_
    refine mi_bdc fun q13 => ?_
    exact mx_ret rfl rfl
  refine mi_swc (F := fun tg => mi_ex mi_pI 137 tg (mi_jmp 137 tg [(0, mR 3 0 0), (1, mI a1), (2, mI (M.1 40 0 (0 + k1))), (3, mI (M.1 40 0 (0 + k2))), (4, mI (M.1 40 0 (0 + k3)))]) [] M) (k := 116) rfl ?_ ?_
  · show mi_ex mi_pI 137 140 [(0, mR 3 0 0), (1, mI a1), (2, mI (M.1 40 0 (0 + k1))), (3, mI (M.1 40 0 (0 + k2))), (4, mI (M.1 40 0 (0 + k3)))] [] M = _
    refine (mx_steps 2 (pc' := 142) (ls' := [(0, mR 3 0 0), (1, mI a1), (2, mI (M.1 40 0 (0 + k1))), (3, mI (M.1 40 0 (0 + k2))), (4, mI (M.1 40 0 (0 + k3)))]) (st' := [mI (M.1 40 0 (0 + k1)), mR 3 0 0]) (M' := M) rfl).trans ?_
    refine (mx_callI (z := 102) (as := [mR 3 0 0, mI (M.1 40 0 (0 + k1))]) (pc' := 145) (ls' := [(0, mR 3 0 0), (1, mI a1), (2, mI (M.1 40 0 (0 + k1))), (3, mI (M.1 40 0 (0 + k2))), (4, mI (M.1 40 0 (0 + k3)))]) (r := []) rfl (Or.inl rfl)).trans ?_
    refine mi_bdc fun q14 => ?_
    exact mx_ret rfl rfl
  refine mi_swc (F := fun tg => mi_ex mi_pI 137 tg (mi_jmp 137 tg [(0, mR 3 0 0), (1, mI a1), (2, mI (M.1 40 0 (0 + k1))), (3, mI (M.1 40 0 (0 + k2))), (4, mI (M.1 40 0 (0 + k3)))]) [] M) (k := 117) rfl ?_ ?_
  · show mi_ex mi_pI 137 121 [(0, mR 3 0 0), (1, mI a1), (2, mI (M.1 40 0 (0 + k1))), (3, mI (M.1 40 0 (0 + k2))), (4, mI (M.1 40 0 (0 + k3)))] [] M = _
    refine (mx_steps 2 (pc' := 123) (ls' := [(0, mR 3 0 0), (1, mI a1), (2, mI (M.1 40 0 (0 + k1))), (3, mI (M.1 40 0 (0 + k2))), (4, mI (M.1 40 0 (0 + k3)))]) (st' := [mI (M.1 40 0 (0 + k1)), mR 3 0 0]) (M' := M) rfl).trans ?_
    refine (mx_callI (z := 89) (as := [mR 3 0 0, mI (M.1 40 0 (0 + k1))]) (pc' := 126) (ls' := [(0, mR 3 0 0), (1, mI a1), (2, mI (M.1 40 0 (0 + k1))), (3, mI (M.1 40 0 (0 + k2))), (4, mI (M.1 40 0 (0 + k3)))]) (r := []) rfl (Or.inl rfl)).trans ?_
    refine mi_bdc fun q15 => ?_
    exact mx_ret rfl rfl
  show mi_ex mi_pI 137 140 [(0, mR 3 0 0), (1, mI a1), (2, mI (M.1 40 0 (0 + k1))), (3, mI (M.1 40 0 (0 + k2))), (4, mI (M.1 40 0 (0 + k3)))] [] M = _
  refine (mx_steps 2 (pc' := 142) (ls' := [(0, mR 3 0 0), (1, mI a1), (2, mI (M.1 40 0 (0 + k1))), (3, mI (M.1 40 0 (0 + k2))), (4, mI (M.1 40 0 (0 + k3)))]) (st' := [mI (M.1 40 0 (0 + k1)), mR 3 0 0]) (M' := M) rfl).trans ?_
  refine (mx_callI (z := 102) (as := [mR 3 0 0, mI (M.1 40 0 (0 + k1))]) (pc' := 145) (ls' := [(0, mR 3 0 0), (1, mI a1), (2, mI (M.1 40 0 (0 + k1))), (3, mI (M.1 40 0 (0 + k2))), (4, mI (M.1 40 0 (0 + k3)))]) (r := []) rfl (Or.inl rfl)).trans ?_
  refine mi_bdc fun q16 => ?_
  exact mx_ret rfl rfl

set_option maxRecDepth 20000 in
theorem fM_does_eq (M : mM) : fM_does M = (fM_here (mi_set (mi_set (mi_set M 41 0 4 0) 41 0 5 ((-1001))) 41 0 6 0)).bind fun q1 => (if ¬ q1.1 = ((-1001)) then fM_does_L35 q1.2 else some (((-10)) - (q1.2.1 41 0 3), q1.2)) := by
  refine (mx_steps 10 (pc' := 18) (ls' := [(0, mR 3 0 0)]) (st' := [mR 3 0 0]) (M' := mi_set (mi_set (mi_set M 41 0 4 0) 41 0 5 ((-1001))) 41 0 6 0) rfl).trans ?_
  refine (mx_callI (z := 131) (as := [mR 3 0 0]) (pc' := 21) (ls' := [(0, mR 3 0 0)]) (r := []) rfl (Or.inl rfl)).trans ?_
  refine mi_bdc fun q1 => ?_
  refine (mx_steps 1 (pc' := 24) (ls' := [(0, mR 3 0 0)]) (st' := [mI ((-1001)), mI q1.1]) (M' := q1.2) rfl).trans ?_
  refine (mx_if (c := ¬ q1.1 = ((-1001))) (p1 := 35) (l1 := [(0, mR 3 0 0)]) (s1 := []) (M1 := q1.2) (p2 := 27) (l2 := [(0, mR 3 0 0)]) (s2 := []) (M2 := q1.2) rfl).trans ?_
  refine mi_itc ?_ ?_
  · rfl
  · refine (mx_steps 4 (pc' := 34) (ls' := [(0, mR 3 0 0)]) (st' := [mI (((-10)) - (q1.2.1 41 0 3))]) (M' := q1.2) rfl).trans ?_
    exact mx_ret rfl rfl

set_option maxRecDepth 20000 in
theorem fM_does_L35_eq (M : mM) : fM_does_L35 M = (if ¬ (M.1 41 0 5) = ((-1001)) then fM_does_L62 M else (fM_here M).bind fun q1 => (if q1.1 = ((-1001)) then fM_does_L62 q1.2 else (fM_readOrder q1.2).bind fun M2 => fM_does_L35 M2)) := by
  refine (mx_steps 3 (pc' := 42) (ls' := [(0, mR 3 0 0)]) (st' := [mI ((-1001)), mI (M.1 41 0 5)]) (M' := M) rfl).trans ?_
  refine (mx_if (c := ¬ (M.1 41 0 5) = ((-1001))) (p1 := 62) (l1 := [(0, mR 3 0 0)]) (s1 := []) (M1 := M) (p2 := 45) (l2 := [(0, mR 3 0 0)]) (s2 := []) (M2 := M) rfl).trans ?_
  refine mi_itc ?_ ?_
  · rfl
  · refine (mx_steps 1 (pc' := 46) (ls' := [(0, mR 3 0 0)]) (st' := [mR 3 0 0]) (M' := M) rfl).trans ?_
    refine (mx_callI (z := 131) (as := [mR 3 0 0]) (pc' := 49) (ls' := [(0, mR 3 0 0)]) (r := []) rfl (Or.inl rfl)).trans ?_
    refine mi_bdc fun q1 => ?_
    refine (mx_steps 1 (pc' := 52) (ls' := [(0, mR 3 0 0)]) (st' := [mI ((-1001)), mI q1.1]) (M' := q1.2) rfl).trans ?_
    refine (mx_if (c := q1.1 = ((-1001))) (p1 := 62) (l1 := [(0, mR 3 0 0)]) (s1 := []) (M1 := q1.2) (p2 := 55) (l2 := [(0, mR 3 0 0)]) (s2 := []) (M2 := q1.2) rfl).trans ?_
    refine mi_itc ?_ ?_
    · rfl
    · refine (mx_steps 1 (pc' := 56) (ls' := [(0, mR 3 0 0)]) (st' := [mR 3 0 0]) (M' := q1.2) rfl).trans ?_
      refine (mx_callV (z := 136) (as := [mR 3 0 0]) (pc' := 59) (ls' := [(0, mR 3 0 0)]) (r := []) rfl rfl).trans ?_
      refine mi_bdc fun M2 => ?_
      refine (mx_steps 1 (pc' := 35) (ls' := [(0, mR 3 0 0)]) (st' := []) (M' := M2) rfl).trans ?_
      rfl

set_option maxRecDepth 20000 in
theorem fM_does_L62_eq (M : mM) : fM_does_L62 M = (if (M.1 41 0 5) = ((-1001)) then (fM_hold M).bind fun M1 => fM_does_L86 0 M1 else some (((-10)) - (M.1 41 0 5), M)) := by
  refine (mx_steps 3 (pc' := 69) (ls' := [(0, mR 3 0 0)]) (st' := [mI ((-1001)), mI (M.1 41 0 5)]) (M' := M) rfl).trans ?_
  refine (mx_if (c := (M.1 41 0 5) = ((-1001))) (p1 := 80) (l1 := [(0, mR 3 0 0)]) (s1 := []) (M1 := M) (p2 := 72) (l2 := [(0, mR 3 0 0)]) (s2 := []) (M2 := M) rfl).trans ?_
  refine mi_itc ?_ ?_
  · refine (mx_steps 1 (pc' := 81) (ls' := [(0, mR 3 0 0)]) (st' := [mR 3 0 0]) (M' := M) rfl).trans ?_
    refine (mx_callV (z := 70) (as := [mR 3 0 0]) (pc' := 84) (ls' := [(0, mR 3 0 0)]) (r := []) rfl rfl).trans ?_
    refine mi_bdc fun M1 => ?_
    refine (mx_steps 2 (pc' := 86) (ls' := [(0, mR 3 0 0), (1, mI 0)]) (st' := []) (M' := M1) rfl).trans ?_
    rfl
  · refine (mx_steps 4 (pc' := 79) (ls' := [(0, mR 3 0 0)]) (st' := [mI (((-10)) - (M.1 41 0 5))]) (M' := M) rfl).trans ?_
    exact mx_ret rfl rfl

set_option maxRecDepth 20000 in
theorem fM_does_L86_eq (v1 : Int32) (M : mM) : fM_does_L86 v1 M = (if (M.1 41 0 6) ≤ v1 then (fM_push M).bind fun M1 => some (M1.1 41 0 6, M1) else (fM_doOrder v1 M).bind fun q2 => (if 0 ≤ q2.1 then fM_does_L86 (v1 + 1) q2.2 else fM_does_L104 v1 0 q2.2)) := by
  refine (mx_steps 3 (pc' := 91) (ls' := [(0, mR 3 0 0), (1, mI v1)]) (st' := [mI (M.1 41 0 6), mI v1]) (M' := M) rfl).trans ?_
  refine (mx_if (c := (M.1 41 0 6) ≤ v1) (p1 := 141) (l1 := [(0, mR 3 0 0), (1, mI v1)]) (s1 := []) (M1 := M) (p2 := 94) (l2 := [(0, mR 3 0 0), (1, mI v1)]) (s2 := []) (M2 := M) rfl).trans ?_
  refine mi_itc ?_ ?_
  · refine (mx_steps 1 (pc' := 142) (ls' := [(0, mR 3 0 0), (1, mI v1)]) (st' := [mR 3 0 0]) (M' := M) rfl).trans ?_
    refine (mx_callV (z := 71) (as := [mR 3 0 0]) (pc' := 145) (ls' := [(0, mR 3 0 0), (1, mI v1)]) (r := []) rfl rfl).trans ?_
    refine mi_bdc fun M1 => ?_
    refine (mx_steps 2 (pc' := 149) (ls' := [(0, mR 3 0 0), (1, mI v1)]) (st' := [mI (M1.1 41 0 6)]) (M' := M1) rfl).trans ?_
    exact mx_ret rfl rfl
  · refine (mx_steps 2 (pc' := 96) (ls' := [(0, mR 3 0 0), (1, mI v1)]) (st' := [mI v1, mR 3 0 0]) (M' := M) rfl).trans ?_
    refine (mx_callI (z := 137) (as := [mR 3 0 0, mI v1]) (pc' := 99) (ls' := [(0, mR 3 0 0), (1, mI v1)]) (r := []) rfl (Or.inl rfl)).trans ?_
    refine mi_bdc fun q2 => ?_
    refine (mx_if (c := 0 ≤ q2.1) (p1 := 135) (l1 := [(0, mR 3 0 0), (1, mI v1)]) (s1 := []) (M1 := q2.2) (p2 := 102) (l2 := [(0, mR 3 0 0), (1, mI v1)]) (s2 := []) (M2 := q2.2) rfl).trans ?_
    refine mi_itc ?_ ?_
    · refine (mx_steps 2 (pc' := 86) (ls' := [(0, mR 3 0 0), (1, mI (v1 + 1))]) (st' := []) (M' := q2.2) rfl).trans ?_
      rfl
    · refine (mx_steps 2 (pc' := 104) (ls' := [(0, mR 3 0 0), (1, mI v1), (2, mI 0)]) (st' := []) (M' := q2.2) rfl).trans ?_
      rfl

set_option maxRecDepth 20000 in
theorem fM_does_L104_eq (v1 : Int32) (v2 : Int32) (M : mM) : fM_does_L104 v1 v2 M = (if 154 ≤ v2 then some (((-2000)) - v1, M) else (mi_ix v2 154).bind fun k1 => (mi_ix v2 154).bind fun k2 => fM_does_L104 v1 (v2 + 1) (mi_set M 30 0 (0 + k2) (M.1 31 0 (0 + k1)))) := by
  refine (mx_steps 2 (pc' := 108) (ls' := [(0, mR 3 0 0), (1, mI v1), (2, mI v2)]) (st' := [mI 154, mI v2]) (M' := M) rfl).trans ?_
  refine (mx_if (c := 154 ≤ v2) (p1 := 129) (l1 := [(0, mR 3 0 0), (1, mI v1), (2, mI v2)]) (s1 := []) (M1 := M) (p2 := 111) (l2 := [(0, mR 3 0 0), (1, mI v1), (2, mI v2)]) (s2 := []) (M2 := M) rfl).trans ?_
  refine mi_itc ?_ ?_
  · refine (mx_steps 3 (pc' := 134) (ls' := [(0, mR 3 0 0), (1, mI v1), (2, mI v2)]) (st' := [mI (((-2000)) - v1)]) (M' := M) rfl).trans ?_
    exact mx_ret rfl rfl
  · refine (mx_steps 6 (pc' := 121) (ls' := [(0, mR 3 0 0), (1, mI v1), (2, mI v2)]) (st' := [mI v2, mR 31 0 0, mI v2, mR 30 0 0]) (M' := M) rfl).trans ?_
    refine (mx_ix (i := v2) (n := 154) (pc' := 122) (ls' := [(0, mR 3 0 0), (1, mI v1), (2, mI v2)]) (sf := fun k1 => [mI (M.1 31 0 (0 + k1)), mI v2, mR 30 0 0]) (Mf := fun k1 => M) rfl).trans ?_
    refine mi_bdc fun k1 => ?_
    refine (mx_ix (i := v2) (n := 154) (pc' := 123) (ls' := [(0, mR 3 0 0), (1, mI v1), (2, mI v2)]) (sf := fun k2 => []) (Mf := fun k2 => mi_set M 30 0 (0 + k2) (M.1 31 0 (0 + k1))) rfl).trans ?_
    refine mi_bdc fun k2 => ?_
    refine (mx_steps 2 (pc' := 104) (ls' := [(0, mR 3 0 0), (1, mI v1), (2, mI (v2 + 1))]) (st' := []) (M' := mi_set M 30 0 (0 + k2) (M.1 31 0 (0 + k1))) rfl).trans ?_
    rfl

set_option maxRecDepth 20000 in
theorem fM_toldOf_eq (a1 : Int32) (M : mM) : fM_toldOf a1 M = (if 3 ≤ a1 then (if ¬ a1 = 3 then some (M.1 41 0 0, M) else some (M.1 41 0 3, M)) else (mi_ix a1 3).bind fun k1 => some (M.1 33 0 (0 + k1), M)) := by
  refine (mx_steps 2 (pc' := 2) (ls' := [(0, mR 3 0 0), (1, mI a1)]) (st' := [mI 3, mI a1]) (M' := M) rfl).trans ?_
  refine (mx_if (c := 3 ≤ a1) (p1 := 14) (l1 := [(0, mR 3 0 0), (1, mI a1)]) (s1 := []) (M1 := M) (p2 := 5) (l2 := [(0, mR 3 0 0), (1, mI a1)]) (s2 := []) (M2 := M) rfl).trans ?_
  refine mi_itc ?_ ?_
  · refine (mx_steps 2 (pc' := 16) (ls' := [(0, mR 3 0 0), (1, mI a1)]) (st' := [mI 3, mI a1]) (M' := M) rfl).trans ?_
    refine (mx_if (c := ¬ a1 = 3) (p1 := 26) (l1 := [(0, mR 3 0 0), (1, mI a1)]) (s1 := []) (M1 := M) (p2 := 19) (l2 := [(0, mR 3 0 0), (1, mI a1)]) (s2 := []) (M2 := M) rfl).trans ?_
    refine mi_itc ?_ ?_
    · refine (mx_steps 2 (pc' := 30) (ls' := [(0, mR 3 0 0), (1, mI a1)]) (st' := [mI (M.1 41 0 0)]) (M' := M) rfl).trans ?_
      exact mx_ret rfl rfl
    · refine (mx_steps 3 (pc' := 30) (ls' := [(0, mR 3 0 0), (1, mI a1)]) (st' := [mI (M.1 41 0 3)]) (M' := M) rfl).trans ?_
      exact mx_ret rfl rfl
  · refine (mx_steps 3 (pc' := 10) (ls' := [(0, mR 3 0 0), (1, mI a1)]) (st' := [mI a1, mR 33 0 0]) (M' := M) rfl).trans ?_
    refine (mx_ix (i := a1) (n := 3) (pc' := 11) (ls' := [(0, mR 3 0 0), (1, mI a1)]) (sf := fun k1 => [mI (M.1 33 0 (0 + k1))]) (Mf := fun k1 => M) rfl).trans ?_
    refine mi_bdc fun k1 => ?_
    refine (mx_steps 1 (pc' := 30) (ls' := [(0, mR 3 0 0), (1, mI a1)]) (st' := [mI (M.1 33 0 (0 + k1))]) (M' := M) rfl).trans ?_
    exact mx_ret rfl rfl

set_option maxRecDepth 20000 in
theorem fM_told_eq (a1 : Int32) (M : mM) : fM_told a1 M = (fM_in a1 0 4 M).bind fun q1 => (if q1.1 = 0 then (fM_refuses ((-1002)) q1.2).bind fun q2 => some (q2.1, q2.2) else (fM_toldOf a1 q1.2).bind fun q3 => some (q3.1, q3.2)) := by
  refine (mx_steps 3 (pc' := 3) (ls' := [(0, mR 3 0 0), (1, mI a1)]) (st' := [mI 4, mI 0, mI a1]) (M' := M) rfl).trans ?_
  refine (mx_callI (z := 68) (as := [mI a1, mI 0, mI 4]) (pc' := 6) (ls' := [(0, mR 3 0 0), (1, mI a1)]) (r := []) rfl (Or.inr rfl)).trans ?_
  refine mi_bdc fun q1 => ?_
  refine (mx_if (c := q1.1 = 0) (p1 := 17) (l1 := [(0, mR 3 0 0), (1, mI a1)]) (s1 := []) (M1 := q1.2) (p2 := 9) (l2 := [(0, mR 3 0 0), (1, mI a1)]) (s2 := []) (M2 := q1.2) rfl).trans ?_
  refine mi_itc ?_ ?_
  · refine (mx_steps 2 (pc' := 21) (ls' := [(0, mR 3 0 0), (1, mI a1)]) (st' := [mI ((-1002)), mR 3 0 0]) (M' := q1.2) rfl).trans ?_
    refine (mx_callI (z := 69) (as := [mR 3 0 0, mI ((-1002))]) (pc' := 24) (ls' := [(0, mR 3 0 0), (1, mI a1)]) (r := []) rfl (Or.inl rfl)).trans ?_
    refine mi_bdc fun q2 => ?_
    exact mx_ret rfl rfl
  · refine (mx_steps 2 (pc' := 11) (ls' := [(0, mR 3 0 0), (1, mI a1)]) (st' := [mI a1, mR 3 0 0]) (M' := q1.2) rfl).trans ?_
    refine (mx_callI (z := 139) (as := [mR 3 0 0, mI a1]) (pc' := 14) (ls' := [(0, mR 3 0 0), (1, mI a1)]) (r := []) rfl (Or.inl rfl)).trans ?_
    refine mi_bdc fun q3 => ?_
    refine (mx_steps 1 (pc' := 24) (ls' := [(0, mR 3 0 0), (1, mI a1)]) (st' := [mI q3.1]) (M' := q3.2) rfl).trans ?_
    exact mx_ret rfl rfl

set_option maxRecDepth 20000 in
theorem fM_mix_eq (a1 : Int32) (M : mM) : fM_mix a1 M = some (mi_setL M ((31 * M.2.2) + a1.toInt64)) := by
  refine (mx_steps 9 (pc' := 15) (ls' := [(0, mR 3 0 0), (1, mI a1)]) (st' := []) (M' := mi_setL M ((31 * M.2.2) + a1.toInt64)) rfl).trans ?_
  exact mx_ret rfl rfl

set_option maxRecDepth 20000 in
theorem fM_digest_eq (M : mM) : fM_digest M = fM_digest_L9 0 (mi_setL M 2792) := by
  refine (mx_steps 5 (pc' := 9) (ls' := [(0, mR 3 0 0), (1, mI 0)]) (st' := []) (M' := mi_setL M 2792) rfl).trans ?_
  rfl

set_option maxRecDepth 20000 in
theorem fM_digest_L9_eq (v1 : Int32) (M : mM) : fM_digest_L9 v1 M = (if 5 ≤ v1 then fM_digest_L31 0 M else (fM_toldOf v1 M).bind fun q1 => (fM_mix q1.1 q1.2).bind fun M2 => fM_digest_L9 (v1 + 1) M2) := by
  refine (mx_steps 2 (pc' := 11) (ls' := [(0, mR 3 0 0), (1, mI v1)]) (st' := [mI 5, mI v1]) (M' := M) rfl).trans ?_
  refine (mx_if (c := 5 ≤ v1) (p1 := 29) (l1 := [(0, mR 3 0 0), (1, mI v1)]) (s1 := []) (M1 := M) (p2 := 14) (l2 := [(0, mR 3 0 0), (1, mI v1)]) (s2 := []) (M2 := M) rfl).trans ?_
  refine mi_itc ?_ ?_
  · refine (mx_steps 2 (pc' := 31) (ls' := [(0, mR 3 0 0), (1, mI 0)]) (st' := []) (M' := M) rfl).trans ?_
    rfl
  · refine (mx_steps 3 (pc' := 17) (ls' := [(0, mR 3 0 0), (1, mI v1)]) (st' := [mI v1, mR 3 0 0, mR 3 0 0]) (M' := M) rfl).trans ?_
    refine (mx_callI (z := 139) (as := [mR 3 0 0, mI v1]) (pc' := 20) (ls' := [(0, mR 3 0 0), (1, mI v1)]) (r := [mR 3 0 0]) rfl (Or.inl rfl)).trans ?_
    refine mi_bdc fun q1 => ?_
    refine (mx_callV (z := 141) (as := [mR 3 0 0, mI q1.1]) (pc' := 23) (ls' := [(0, mR 3 0 0), (1, mI v1)]) (r := []) rfl rfl).trans ?_
    refine mi_bdc fun M2 => ?_
    refine (mx_steps 2 (pc' := 9) (ls' := [(0, mR 3 0 0), (1, mI (v1 + 1))]) (st' := []) (M' := M2) rfl).trans ?_
    rfl

set_option maxRecDepth 20000 in
theorem fM_digest_L31_eq (v1 : Int32) (M : mM) : fM_digest_L31 v1 M = (if 10 ≤ v1 then fM_digest_L54 0 M else (fM_counted v1 M).bind fun q1 => (fM_mix q1.1 q1.2).bind fun M2 => fM_digest_L31 (v1 + 1) M2) := by
  refine (mx_steps 2 (pc' := 34) (ls' := [(0, mR 3 0 0), (1, mI v1)]) (st' := [mI 10, mI v1]) (M' := M) rfl).trans ?_
  refine (mx_if (c := 10 ≤ v1) (p1 := 52) (l1 := [(0, mR 3 0 0), (1, mI v1)]) (s1 := []) (M1 := M) (p2 := 37) (l2 := [(0, mR 3 0 0), (1, mI v1)]) (s2 := []) (M2 := M) rfl).trans ?_
  refine mi_itc ?_ ?_
  · refine (mx_steps 2 (pc' := 54) (ls' := [(0, mR 3 0 0), (1, mI 0)]) (st' := []) (M' := M) rfl).trans ?_
    rfl
  · refine (mx_steps 3 (pc' := 40) (ls' := [(0, mR 3 0 0), (1, mI v1)]) (st' := [mI v1, mR 3 0 0, mR 3 0 0]) (M' := M) rfl).trans ?_
    refine (mx_callI (z := 127) (as := [mR 3 0 0, mI v1]) (pc' := 43) (ls' := [(0, mR 3 0 0), (1, mI v1)]) (r := [mR 3 0 0]) rfl (Or.inl rfl)).trans ?_
    refine mi_bdc fun q1 => ?_
    refine (mx_callV (z := 141) (as := [mR 3 0 0, mI q1.1]) (pc' := 46) (ls' := [(0, mR 3 0 0), (1, mI v1)]) (r := []) rfl rfl).trans ?_
    refine mi_bdc fun M2 => ?_
    refine (mx_steps 2 (pc' := 31) (ls' := [(0, mR 3 0 0), (1, mI (v1 + 1))]) (st' := []) (M' := M2) rfl).trans ?_
    rfl

set_option maxRecDepth 20000 in
theorem fM_digest_L54_eq (v1 : Int32) (M : mM) : fM_digest_L54 v1 M = (mi_ix 4 154).bind fun k1 => (if (M.1 30 0 (0 + k1)) ≤ v1 then fM_digest_L105 0 M else fM_digest_L66 v1 0 M) := by
  refine (mx_steps 4 (pc' := 60) (ls' := [(0, mR 3 0 0), (1, mI v1)]) (st' := [mI 4, mR 30 0 0, mI v1]) (M' := M) rfl).trans ?_
  refine (mx_ix (i := 4) (n := 154) (pc' := 61) (ls' := [(0, mR 3 0 0), (1, mI v1)]) (sf := fun k1 => [mI (M.1 30 0 (0 + k1)), mI v1]) (Mf := fun k1 => M) rfl).trans ?_
  refine mi_bdc fun k1 => ?_
  refine (mx_if (c := (M.1 30 0 (0 + k1)) ≤ v1) (p1 := 103) (l1 := [(0, mR 3 0 0), (1, mI v1)]) (s1 := []) (M1 := M) (p2 := 64) (l2 := [(0, mR 3 0 0), (1, mI v1)]) (s2 := []) (M2 := M) rfl).trans ?_
  refine mi_itc ?_ ?_
  · refine (mx_steps 2 (pc' := 105) (ls' := [(0, mR 3 0 0), (1, mI 0)]) (st' := []) (M' := M) rfl).trans ?_
    rfl
  · refine (mx_steps 2 (pc' := 66) (ls' := [(0, mR 3 0 0), (1, mI v1), (2, mI 0)]) (st' := []) (M' := M) rfl).trans ?_
    rfl

set_option maxRecDepth 20000 in
theorem fM_digest_L105_eq (v1 : Int32) (M : mM) : fM_digest_L105 v1 M = (mi_ix 5 154).bind fun k1 => (if (M.1 30 0 (0 + k1)) ≤ v1 then (fM_settled M).bind fun q2 => (fM_mix q2.1 q2.2).bind fun M3 => some (M3.2.2, M3) else fM_digest_L117 v1 0 M) := by
  refine (mx_steps 4 (pc' := 111) (ls' := [(0, mR 3 0 0), (1, mI v1)]) (st' := [mI 5, mR 30 0 0, mI v1]) (M' := M) rfl).trans ?_
  refine (mx_ix (i := 5) (n := 154) (pc' := 112) (ls' := [(0, mR 3 0 0), (1, mI v1)]) (sf := fun k1 => [mI (M.1 30 0 (0 + k1)), mI v1]) (Mf := fun k1 => M) rfl).trans ?_
  refine mi_bdc fun k1 => ?_
  refine (mx_if (c := (M.1 30 0 (0 + k1)) ≤ v1) (p1 := 155) (l1 := [(0, mR 3 0 0), (1, mI v1)]) (s1 := []) (M1 := M) (p2 := 115) (l2 := [(0, mR 3 0 0), (1, mI v1)]) (s2 := []) (M2 := M) rfl).trans ?_
  refine mi_itc ?_ ?_
  · refine (mx_steps 2 (pc' := 157) (ls' := [(0, mR 3 0 0), (1, mI v1)]) (st' := [mR 3 0 0, mR 3 0 0]) (M' := M) rfl).trans ?_
    refine (mx_callI (z := 121) (as := [mR 3 0 0]) (pc' := 160) (ls' := [(0, mR 3 0 0), (1, mI v1)]) (r := [mR 3 0 0]) rfl (Or.inl rfl)).trans ?_
    refine mi_bdc fun q2 => ?_
    refine (mx_callV (z := 141) (as := [mR 3 0 0, mI q2.1]) (pc' := 163) (ls' := [(0, mR 3 0 0), (1, mI v1)]) (r := []) rfl rfl).trans ?_
    refine mi_bdc fun M3 => ?_
    refine (mx_steps 2 (pc' := 167) (ls' := [(0, mR 3 0 0), (1, mI v1)]) (st' := [mL M3.2.2]) (M' := M3) rfl).trans ?_
    exact mx_ret rfl rfl
  · refine (mx_steps 2 (pc' := 117) (ls' := [(0, mR 3 0 0), (1, mI v1), (2, mI 0)]) (st' := []) (M' := M) rfl).trans ?_
    rfl

set_option maxRecDepth 20000 in
theorem fM_digest_L66_eq (v1 : Int32) (v2 : Int32) (M : mM) : fM_digest_L66 v1 v2 M = (if 8 ≤ v2 then (fM_ringOf v1 M).bind fun q1 => (fM_mix q1.1 q1.2).bind fun M2 => fM_digest_L54 (v1 + 1) M2 else (fM_nodeAt v1 v2 M).bind fun q3 => (fM_mix q3.1 q3.2).bind fun M4 => fM_digest_L66 v1 (v2 + 1) M4) := by
  refine (mx_steps 2 (pc' := 69) (ls' := [(0, mR 3 0 0), (1, mI v1), (2, mI v2)]) (st' := [mI 8, mI v2]) (M' := M) rfl).trans ?_
  refine (mx_if (c := 8 ≤ v2) (p1 := 88) (l1 := [(0, mR 3 0 0), (1, mI v1), (2, mI v2)]) (s1 := []) (M1 := M) (p2 := 72) (l2 := [(0, mR 3 0 0), (1, mI v1), (2, mI v2)]) (s2 := []) (M2 := M) rfl).trans ?_
  refine mi_itc ?_ ?_
  · refine (mx_steps 3 (pc' := 91) (ls' := [(0, mR 3 0 0), (1, mI v1), (2, mI v2)]) (st' := [mI v1, mR 3 0 0, mR 3 0 0]) (M' := M) rfl).trans ?_
    refine (mx_callI (z := 117) (as := [mR 3 0 0, mI v1]) (pc' := 94) (ls' := [(0, mR 3 0 0), (1, mI v1), (2, mI v2)]) (r := [mR 3 0 0]) rfl (Or.inl rfl)).trans ?_
    refine mi_bdc fun q1 => ?_
    refine (mx_callV (z := 141) (as := [mR 3 0 0, mI q1.1]) (pc' := 97) (ls' := [(0, mR 3 0 0), (1, mI v1), (2, mI v2)]) (r := []) rfl rfl).trans ?_
    refine mi_bdc fun M2 => ?_
    refine (mx_steps 2 (pc' := 54) (ls' := [(0, mR 3 0 0), (1, mI (v1 + 1))]) (st' := []) (M' := M2) rfl).trans ?_
    rfl
  · refine (mx_steps 4 (pc' := 76) (ls' := [(0, mR 3 0 0), (1, mI v1), (2, mI v2)]) (st' := [mI v2, mI v1, mR 3 0 0, mR 3 0 0]) (M' := M) rfl).trans ?_
    refine (mx_callI (z := 76) (as := [mR 3 0 0, mI v1, mI v2]) (pc' := 79) (ls' := [(0, mR 3 0 0), (1, mI v1), (2, mI v2)]) (r := [mR 3 0 0]) rfl (Or.inl rfl)).trans ?_
    refine mi_bdc fun q3 => ?_
    refine (mx_callV (z := 141) (as := [mR 3 0 0, mI q3.1]) (pc' := 82) (ls' := [(0, mR 3 0 0), (1, mI v1), (2, mI v2)]) (r := []) rfl rfl).trans ?_
    refine mi_bdc fun M4 => ?_
    refine (mx_steps 2 (pc' := 66) (ls' := [(0, mR 3 0 0), (1, mI v1), (2, mI (v2 + 1))]) (st' := []) (M' := M4) rfl).trans ?_
    rfl

set_option maxRecDepth 20000 in
theorem fM_digest_L117_eq (v1 : Int32) (v2 : Int32) (M : mM) : fM_digest_L117 v1 v2 M = (if 10 ≤ v2 then (fM_offersOf v1 0 M).bind fun q1 => (fM_mix q1.1 q1.2).bind fun M2 => fM_digest_L105 (v1 + 1) M2 else (fM_linkAt v1 v2 M).bind fun q3 => (fM_mix q3.1 q3.2).bind fun M4 => fM_digest_L117 v1 (v2 + 1) M4) := by
  refine (mx_steps 2 (pc' := 120) (ls' := [(0, mR 3 0 0), (1, mI v1), (2, mI v2)]) (st' := [mI 10, mI v2]) (M' := M) rfl).trans ?_
  refine (mx_if (c := 10 ≤ v2) (p1 := 139) (l1 := [(0, mR 3 0 0), (1, mI v1), (2, mI v2)]) (s1 := []) (M1 := M) (p2 := 123) (l2 := [(0, mR 3 0 0), (1, mI v1), (2, mI v2)]) (s2 := []) (M2 := M) rfl).trans ?_
  refine mi_itc ?_ ?_
  · refine (mx_steps 4 (pc' := 143) (ls' := [(0, mR 3 0 0), (1, mI v1), (2, mI v2)]) (st' := [mI 0, mI v1, mR 3 0 0, mR 3 0 0]) (M' := M) rfl).trans ?_
    refine (mx_callI (z := 112) (as := [mR 3 0 0, mI v1, mI 0]) (pc' := 146) (ls' := [(0, mR 3 0 0), (1, mI v1), (2, mI v2)]) (r := [mR 3 0 0]) rfl (Or.inl rfl)).trans ?_
    refine mi_bdc fun q1 => ?_
    refine (mx_callV (z := 141) (as := [mR 3 0 0, mI q1.1]) (pc' := 149) (ls' := [(0, mR 3 0 0), (1, mI v1), (2, mI v2)]) (r := []) rfl rfl).trans ?_
    refine mi_bdc fun M2 => ?_
    refine (mx_steps 2 (pc' := 105) (ls' := [(0, mR 3 0 0), (1, mI (v1 + 1))]) (st' := []) (M' := M2) rfl).trans ?_
    rfl
  · refine (mx_steps 4 (pc' := 127) (ls' := [(0, mR 3 0 0), (1, mI v1), (2, mI v2)]) (st' := [mI v2, mI v1, mR 3 0 0, mR 3 0 0]) (M' := M) rfl).trans ?_
    refine (mx_callI (z := 78) (as := [mR 3 0 0, mI v1, mI v2]) (pc' := 130) (ls' := [(0, mR 3 0 0), (1, mI v1), (2, mI v2)]) (r := [mR 3 0 0]) rfl (Or.inl rfl)).trans ?_
    refine mi_bdc fun q3 => ?_
    refine (mx_callV (z := 141) (as := [mR 3 0 0, mI q3.1]) (pc' := 133) (ls' := [(0, mR 3 0 0), (1, mI v1), (2, mI v2)]) (r := []) rfl rfl).trans ?_
    refine mi_bdc fun M4 => ?_
    refine (mx_steps 2 (pc' := 117) (ls' := [(0, mR 3 0 0), (1, mI v1), (2, mI (v2 + 1))]) (st' := []) (M' := M4) rfl).trans ?_
    rfl

