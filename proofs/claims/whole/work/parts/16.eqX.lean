set_option maxRecDepth 20000 in
theorem fX_node_eq (a1 : Int32) (a2 : Int32) (M : mM) : fX_node a1 a2 M = (fX_change 110 a1 a2 0 M).bind fun q1 => some (q1.1, q1.2) := by
  refine (mx_steps 5 (pc' := 6) (ls' := [(0, mR 2 0 0), (1, mI a1), (2, mI a2)]) (st' := [mI 0, mI a2, mI a1, mI 110, mR 2 0 0]) (M' := M) rfl).trans ?_
  refine (mx_callI (z := 64) (as := [mR 2 0 0, mI 110, mI a1, mI a2, mI 0]) (pc' := 9) (ls' := [(0, mR 2 0 0), (1, mI a1), (2, mI a2)]) (r := []) rfl (Or.inl rfl)).trans ?_
  refine mi_bdc fun q1 => ?_
  exact mx_ret rfl rfl

set_option maxRecDepth 20000 in
theorem fX_link_eq (a1 : Int32) (a2 : Int32) (a3 : Int32) (M : mM) : fX_link a1 a2 a3 M = (fX_change 108 a1 a2 a3 M).bind fun q1 => some (q1.1, q1.2) := by
  refine (mx_steps 5 (pc' := 6) (ls' := [(0, mR 2 0 0), (1, mI a1), (2, mI a2), (3, mI a3)]) (st' := [mI a3, mI a2, mI a1, mI 108, mR 2 0 0]) (M' := M) rfl).trans ?_
  refine (mx_callI (z := 64) (as := [mR 2 0 0, mI 108, mI a1, mI a2, mI a3]) (pc' := 9) (ls' := [(0, mR 2 0 0), (1, mI a1), (2, mI a2), (3, mI a3)]) (r := []) rfl (Or.inl rfl)).trans ?_
  refine mi_bdc fun q1 => ?_
  exact mx_ret rfl rfl

set_option maxRecDepth 20000 in
theorem fX_owns_eq (a1 : Int32) (a2 : Int32) (a3 : Int32) (M : mM) : fX_owns a1 a2 a3 M = (fX_change 111 a1 a2 a3 M).bind fun q1 => some (q1.1, q1.2) := by
  refine (mx_steps 5 (pc' := 6) (ls' := [(0, mR 2 0 0), (1, mI a1), (2, mI a2), (3, mI a3)]) (st' := [mI a3, mI a2, mI a1, mI 111, mR 2 0 0]) (M' := M) rfl).trans ?_
  refine (mx_callI (z := 64) (as := [mR 2 0 0, mI 111, mI a1, mI a2, mI a3]) (pc' := 9) (ls' := [(0, mR 2 0 0), (1, mI a1), (2, mI a2), (3, mI a3)]) (r := []) rfl (Or.inl rfl)).trans ?_
  refine mi_bdc fun q1 => ?_
  exact mx_ret rfl rfl

set_option maxRecDepth 20000 in
theorem fX_turns_eq (a1 : Int32) (M : mM) : fX_turns a1 M = (fX_change 117 a1 0 0 M).bind fun q1 => some (q1.1, q1.2) := by
  refine (mx_steps 5 (pc' := 6) (ls' := [(0, mR 2 0 0), (1, mI a1)]) (st' := [mI 0, mI 0, mI a1, mI 117, mR 2 0 0]) (M' := M) rfl).trans ?_
  refine (mx_callI (z := 64) (as := [mR 2 0 0, mI 117, mI a1, mI 0, mI 0]) (pc' := 9) (ls' := [(0, mR 2 0 0), (1, mI a1)]) (r := []) rfl (Or.inl rfl)).trans ?_
  refine mi_bdc fun q1 => ?_
  exact mx_ret rfl rfl

set_option maxRecDepth 20000 in
theorem fX_sets_eq (a1 : Int32) (a2 : Int32) (M : mM) : fX_sets a1 a2 M = (fX_change 115 a1 a2 0 M).bind fun q1 => some (q1.1, q1.2) := by
  refine (mx_steps 5 (pc' := 6) (ls' := [(0, mR 2 0 0), (1, mI a1), (2, mI a2)]) (st' := [mI 0, mI a2, mI a1, mI 115, mR 2 0 0]) (M' := M) rfl).trans ?_
  refine (mx_callI (z := 64) (as := [mR 2 0 0, mI 115, mI a1, mI a2, mI 0]) (pc' := 9) (ls' := [(0, mR 2 0 0), (1, mI a1), (2, mI a2)]) (r := []) rfl (Or.inl rfl)).trans ?_
  refine mi_bdc fun q1 => ?_
  exact mx_ret rfl rfl

set_option maxRecDepth 20000 in
theorem fX_clears_eq (a1 : Int32) (M : mM) : fX_clears a1 M = (fX_change 99 a1 0 0 M).bind fun q1 => some (q1.1, q1.2) := by
  refine (mx_steps 5 (pc' := 6) (ls' := [(0, mR 2 0 0), (1, mI a1)]) (st' := [mI 0, mI 0, mI a1, mI 99, mR 2 0 0]) (M' := M) rfl).trans ?_
  refine (mx_callI (z := 64) (as := [mR 2 0 0, mI 99, mI a1, mI 0, mI 0]) (pc' := 9) (ls' := [(0, mR 2 0 0), (1, mI a1)]) (r := []) rfl (Or.inl rfl)).trans ?_
  refine mi_bdc fun q1 => ?_
  exact mx_ret rfl rfl

set_option maxRecDepth 20000 in
theorem fX_looks_eq (a1 : Int32) (M : mM) : fX_looks a1 M = (fX_change 107 a1 0 0 M).bind fun q1 => some (q1.1, q1.2) := by
  refine (mx_steps 5 (pc' := 6) (ls' := [(0, mR 2 0 0), (1, mI a1)]) (st' := [mI 0, mI 0, mI a1, mI 107, mR 2 0 0]) (M' := M) rfl).trans ?_
  refine (mx_callI (z := 64) (as := [mR 2 0 0, mI 107, mI a1, mI 0, mI 0]) (pc' := 9) (ls' := [(0, mR 2 0 0), (1, mI a1)]) (r := []) rfl (Or.inl rfl)).trans ?_
  refine mi_bdc fun q1 => ?_
  exact mx_ret rfl rfl

set_option maxRecDepth 20000 in
theorem fX_ticks_eq (a1 : Int32) (M : mM) : fX_ticks a1 M = (fX_change 116 a1 0 0 M).bind fun q1 => some (q1.1, q1.2) := by
  refine (mx_steps 5 (pc' := 6) (ls' := [(0, mR 2 0 0), (1, mI a1)]) (st' := [mI 0, mI 0, mI a1, mI 116, mR 2 0 0]) (M' := M) rfl).trans ?_
  refine (mx_callI (z := 64) (as := [mR 2 0 0, mI 116, mI a1, mI 0, mI 0]) (pc' := 9) (ls' := [(0, mR 2 0 0), (1, mI a1)]) (r := []) rfl (Or.inl rfl)).trans ?_
  refine mi_bdc fun q1 => ?_
  exact mx_ret rfl rfl

set_option maxRecDepth 20000 in
theorem fX_of_eq (a1 : Int32) (a2 : Int32) (M : mM) : fX_of a1 a2 M = (fN_hasNode (M.2.1 0) a1 M).bind fun q1 => (if q1.1 = 0 then fX_of_L21 q1.2 else (fX_isWithin a2 0 7 q1.2).bind fun q2 => (if ¬ q2.1 = 0 then (mi_ix a1 6).bind fun k3 => (mi_ix a2 8).bind fun k4 => some (q2.2.1 0 (q2.2.2.1 0) (6 + 8 * k3 + k4), q2.2) else fX_of_L21 q2.2)) := by
  refine (mx_steps 3 (pc' := 5) (ls' := [(0, mR 2 0 0), (1, mI a1), (2, mI a2)]) (st' := [mI a1, mR 0 (M.2.1 0) 0]) (M' := M) rfl).trans ?_
  refine (mx_callI (z := 1) (as := [mR 0 (M.2.1 0) 0, mI a1]) (pc' := 8) (ls' := [(0, mR 2 0 0), (1, mI a1), (2, mI a2)]) (r := []) rfl (Or.inr rfl)).trans ?_
  refine mi_bdc fun q1 => ?_
  refine (mx_if (c := q1.1 = 0) (p1 := 21) (l1 := [(0, mR 2 0 0)]) (s1 := []) (M1 := q1.2) (p2 := 11) (l2 := [(0, mR 2 0 0), (1, mI a1), (2, mI a2)]) (s2 := []) (M2 := q1.2) rfl).trans ?_
  refine mi_itc ?_ ?_
  · rfl
  · refine (mx_steps 3 (pc' := 15) (ls' := [(0, mR 2 0 0), (1, mI a1), (2, mI a2)]) (st' := [mI 7, mI 0, mI a2]) (M' := q1.2) rfl).trans ?_
    refine (mx_callI (z := 63) (as := [mI a2, mI 0, mI 7]) (pc' := 18) (ls' := [(0, mR 2 0 0), (1, mI a1), (2, mI a2)]) (r := []) rfl (Or.inr rfl)).trans ?_
    refine mi_bdc fun q2 => ?_
    refine (mx_if (c := ¬ q2.1 = 0) (p1 := 29) (l1 := [(0, mR 2 0 0), (1, mI a1), (2, mI a2)]) (s1 := []) (M1 := q2.2) (p2 := 21) (l2 := [(0, mR 2 0 0)]) (s2 := []) (M2 := q2.2) rfl).trans ?_
    refine mi_itc ?_ ?_
    · refine (mx_steps 4 (pc' := 37) (ls' := [(0, mR 2 0 0), (1, mI a1), (2, mI a2)]) (st' := [mI a1, mR 11 (q2.2.2.1 0) 0]) (M' := q2.2) rfl).trans ?_
      refine (mx_ix (i := a1) (n := 6) (pc' := 38) (ls' := [(0, mR 2 0 0), (1, mI a1), (2, mI a2)]) (sf := fun k3 => [mR 12 (q2.2.2.1 0) k3]) (Mf := fun k3 => q2.2) rfl).trans ?_
      refine mi_bdc fun k3 => ?_
      refine (mx_steps 1 (pc' := 39) (ls' := [(0, mR 2 0 0), (1, mI a1), (2, mI a2)]) (st' := [mI a2, mR 12 (q2.2.2.1 0) k3]) (M' := q2.2) rfl).trans ?_
      refine (mx_ix (i := a2) (n := 8) (pc' := 40) (ls' := [(0, mR 2 0 0), (1, mI a1), (2, mI a2)]) (sf := fun k4 => [mI (q2.2.1 0 (q2.2.2.1 0) (6 + 8 * k3 + k4))]) (Mf := fun k4 => q2.2) rfl).trans ?_
      refine mi_bdc fun k4 => ?_
      exact mx_ret rfl rfl
    · rfl

set_option maxRecDepth 20000 in
theorem fX_of_L21_eq (M : mM) : fX_of_L21 M = (fX_refuse ((-1002)) M).bind fun q1 => some (q1.1, q1.2) := by
  refine (mx_steps 2 (pc' := 25) (ls' := [(0, mR 2 0 0)]) (st' := [mI ((-1002)), mR 2 0 0]) (M' := M) rfl).trans ?_
  refine (mx_callI (z := 67) (as := [mR 2 0 0, mI ((-1002))]) (pc' := 28) (ls' := [(0, mR 2 0 0)]) (r := []) rfl (Or.inl rfl)).trans ?_
  refine mi_bdc fun q1 => ?_
  exact mx_ret rfl rfl

set_option maxRecDepth 20000 in
theorem fX_offers_eq (a1 : Int32) (a2 : Int32) (M : mM) : fX_offers a1 a2 M = (fN_hasLink (M.2.1 0) a1 M).bind fun q1 => (if q1.1 = 0 then fX_offers_L20 q1.2 else (fX_isWithin a2 0 2 q1.2).bind fun q2 => (if ¬ q2.1 = 0 then (fN_offered (q2.2.2.1 0) a1 a2 q2.2).bind fun q3 => some (q3.1, q3.2) else fX_offers_L20 q2.2)) := by
  refine (mx_steps 3 (pc' := 5) (ls' := [(0, mR 2 0 0), (1, mI a1), (2, mI a2)]) (st' := [mI a1, mR 0 (M.2.1 0) 0]) (M' := M) rfl).trans ?_
  refine (mx_callI (z := 2) (as := [mR 0 (M.2.1 0) 0, mI a1]) (pc' := 8) (ls' := [(0, mR 2 0 0), (1, mI a1), (2, mI a2)]) (r := []) rfl (Or.inr rfl)).trans ?_
  refine mi_bdc fun q1 => ?_
  refine (mx_if (c := q1.1 = 0) (p1 := 20) (l1 := [(0, mR 2 0 0)]) (s1 := []) (M1 := q1.2) (p2 := 11) (l2 := [(0, mR 2 0 0), (1, mI a1), (2, mI a2)]) (s2 := []) (M2 := q1.2) rfl).trans ?_
  refine mi_itc ?_ ?_
  · rfl
  · refine (mx_steps 3 (pc' := 14) (ls' := [(0, mR 2 0 0), (1, mI a1), (2, mI a2)]) (st' := [mI 2, mI 0, mI a2]) (M' := q1.2) rfl).trans ?_
    refine (mx_callI (z := 63) (as := [mI a2, mI 0, mI 2]) (pc' := 17) (ls' := [(0, mR 2 0 0), (1, mI a1), (2, mI a2)]) (r := []) rfl (Or.inr rfl)).trans ?_
    refine mi_bdc fun q2 => ?_
    refine (mx_if (c := ¬ q2.1 = 0) (p1 := 28) (l1 := [(0, mR 2 0 0), (1, mI a1), (2, mI a2)]) (s1 := []) (M1 := q2.2) (p2 := 20) (l2 := [(0, mR 2 0 0)]) (s2 := []) (M2 := q2.2) rfl).trans ?_
    refine mi_itc ?_ ?_
    · refine (mx_steps 4 (pc' := 34) (ls' := [(0, mR 2 0 0), (1, mI a1), (2, mI a2)]) (st' := [mI a2, mI a1, mR 0 (q2.2.2.1 0) 0]) (M' := q2.2) rfl).trans ?_
      refine (mx_callI (z := 17) (as := [mR 0 (q2.2.2.1 0) 0, mI a1, mI a2]) (pc' := 37) (ls' := [(0, mR 2 0 0), (1, mI a1), (2, mI a2)]) (r := []) rfl (Or.inl rfl)).trans ?_
      refine mi_bdc fun q3 => ?_
      exact mx_ret rfl rfl
    · rfl

set_option maxRecDepth 20000 in
theorem fX_offers_L20_eq (M : mM) : fX_offers_L20 M = (fX_refuse ((-1002)) M).bind fun q1 => some (q1.1, q1.2) := by
  refine (mx_steps 2 (pc' := 24) (ls' := [(0, mR 2 0 0)]) (st' := [mI ((-1002)), mR 2 0 0]) (M' := M) rfl).trans ?_
  refine (mx_callI (z := 67) (as := [mR 2 0 0, mI ((-1002))]) (pc' := 27) (ls' := [(0, mR 2 0 0)]) (r := []) rfl (Or.inl rfl)).trans ?_
  refine mi_bdc fun q1 => ?_
  exact mx_ret rfl rfl

set_option maxRecDepth 20000 in
theorem fX_would_eq (a1 : Int32) (M : mM) : fX_would a1 M = (fN_hasNode (M.2.1 0) a1 M).bind fun q1 => (if ¬ q1.1 = 0 then (fN_copyFrom (q1.2.2.1 1) (q1.2.2.1 0) q1.2).bind fun M2 => (fN_lookOnce (M2.2.1 1) M2).bind fun q3 => (mi_ix a1 6).bind fun k4 => (mi_ix 3 8).bind fun k5 => some (q3.2.1 0 (q3.2.2.1 1) (6 + 8 * k4 + k5), q3.2) else (fX_refuse ((-1002)) q1.2).bind fun q6 => some (q6.1, q6.2)) := by
  refine (mx_steps 3 (pc' := 5) (ls' := [(0, mR 2 0 0), (1, mI a1)]) (st' := [mI a1, mR 0 (M.2.1 0) 0]) (M' := M) rfl).trans ?_
  refine (mx_callI (z := 1) (as := [mR 0 (M.2.1 0) 0, mI a1]) (pc' := 8) (ls' := [(0, mR 2 0 0), (1, mI a1)]) (r := []) rfl (Or.inr rfl)).trans ?_
  refine mi_bdc fun q1 => ?_
  refine (mx_if (c := ¬ q1.1 = 0) (p1 := 19) (l1 := [(0, mR 2 0 0), (1, mI a1)]) (s1 := []) (M1 := q1.2) (p2 := 11) (l2 := [(0, mR 2 0 0), (1, mI a1)]) (s2 := []) (M2 := q1.2) rfl).trans ?_
  refine mi_itc ?_ ?_
  · refine (mx_steps 4 (pc' := 27) (ls' := [(0, mR 2 0 0), (1, mI a1)]) (st' := [mR 0 (q1.2.2.1 0) 0, mR 0 (q1.2.2.1 1) 0]) (M' := q1.2) rfl).trans ?_
    refine (mx_callV (z := 0) (as := [mR 0 (q1.2.2.1 1) 0, mR 0 (q1.2.2.1 0) 0]) (pc' := 30) (ls' := [(0, mR 2 0 0), (1, mI a1)]) (r := []) rfl rfl).trans ?_
    refine mi_bdc fun M2 => ?_
    refine (mx_steps 2 (pc' := 34) (ls' := [(0, mR 2 0 0), (1, mI a1)]) (st' := [mR 0 (M2.2.1 1) 0]) (M' := M2) rfl).trans ?_
    refine (mx_callI (z := 18) (as := [mR 0 (M2.2.1 1) 0]) (pc' := 37) (ls' := [(0, mR 2 0 0), (1, mI a1)]) (r := []) rfl (Or.inr rfl)).trans ?_
    refine mi_bdc fun q3 => ?_
    refine (mx_steps 5 (pc' := 46) (ls' := [(0, mR 2 0 0), (1, mI a1)]) (st' := [mI a1, mR 11 (q3.2.2.1 1) 0]) (M' := q3.2) rfl).trans ?_
    refine (mx_ix (i := a1) (n := 6) (pc' := 47) (ls' := [(0, mR 2 0 0), (1, mI a1)]) (sf := fun k4 => [mR 12 (q3.2.2.1 1) k4]) (Mf := fun k4 => q3.2) rfl).trans ?_
    refine mi_bdc fun k4 => ?_
    refine (mx_steps 1 (pc' := 48) (ls' := [(0, mR 2 0 0), (1, mI a1)]) (st' := [mI 3, mR 12 (q3.2.2.1 1) k4]) (M' := q3.2) rfl).trans ?_
    refine (mx_ix (i := 3) (n := 8) (pc' := 49) (ls' := [(0, mR 2 0 0), (1, mI a1)]) (sf := fun k5 => [mI (q3.2.1 0 (q3.2.2.1 1) (6 + 8 * k4 + k5))]) (Mf := fun k5 => q3.2) rfl).trans ?_
    refine mi_bdc fun k5 => ?_
    exact mx_ret rfl rfl
  · refine (mx_steps 2 (pc' := 15) (ls' := [(0, mR 2 0 0), (1, mI a1)]) (st' := [mI ((-1002)), mR 2 0 0]) (M' := q1.2) rfl).trans ?_
    refine (mx_callI (z := 67) (as := [mR 2 0 0, mI ((-1002))]) (pc' := 18) (ls' := [(0, mR 2 0 0), (1, mI a1)]) (r := []) rfl (Or.inl rfl)).trans ?_
    refine mi_bdc fun q6 => ?_
    exact mx_ret rfl rfl

set_option maxRecDepth 20000 in
theorem fX_chain_eq (a1 : Int32) (a2 : Int32) (M : mM) : fX_chain a1 a2 M = (fN_hasNode (M.2.1 0) a1 M).bind fun q1 => (if q1.1 = 0 then fX_chain_L15 q1.2 else (if 0 ≤ a2 then (fN_chainNode (q1.2.2.1 0) a1 a2 q1.2).bind fun q2 => some (q2.1, q2.2) else fX_chain_L15 q1.2)) := by
  refine (mx_steps 3 (pc' := 5) (ls' := [(0, mR 2 0 0), (1, mI a1), (2, mI a2)]) (st' := [mI a1, mR 0 (M.2.1 0) 0]) (M' := M) rfl).trans ?_
  refine (mx_callI (z := 1) (as := [mR 0 (M.2.1 0) 0, mI a1]) (pc' := 8) (ls' := [(0, mR 2 0 0), (1, mI a1), (2, mI a2)]) (r := []) rfl (Or.inr rfl)).trans ?_
  refine mi_bdc fun q1 => ?_
  refine (mx_if (c := q1.1 = 0) (p1 := 15) (l1 := [(0, mR 2 0 0)]) (s1 := []) (M1 := q1.2) (p2 := 11) (l2 := [(0, mR 2 0 0), (1, mI a1), (2, mI a2)]) (s2 := []) (M2 := q1.2) rfl).trans ?_
  refine mi_itc ?_ ?_
  · rfl
  · refine (mx_steps 1 (pc' := 12) (ls' := [(0, mR 2 0 0), (1, mI a1), (2, mI a2)]) (st' := [mI a2]) (M' := q1.2) rfl).trans ?_
    refine (mx_if (c := 0 ≤ a2) (p1 := 23) (l1 := [(0, mR 2 0 0), (1, mI a1), (2, mI a2)]) (s1 := []) (M1 := q1.2) (p2 := 15) (l2 := [(0, mR 2 0 0)]) (s2 := []) (M2 := q1.2) rfl).trans ?_
    refine mi_itc ?_ ?_
    · refine (mx_steps 4 (pc' := 29) (ls' := [(0, mR 2 0 0), (1, mI a1), (2, mI a2)]) (st' := [mI a2, mI a1, mR 0 (q1.2.2.1 0) 0]) (M' := q1.2) rfl).trans ?_
      refine (mx_callI (z := 25) (as := [mR 0 (q1.2.2.1 0) 0, mI a1, mI a2]) (pc' := 32) (ls' := [(0, mR 2 0 0), (1, mI a1), (2, mI a2)]) (r := []) rfl (Or.inl rfl)).trans ?_
      refine mi_bdc fun q2 => ?_
      exact mx_ret rfl rfl
    · rfl

set_option maxRecDepth 20000 in
theorem fX_chain_L15_eq (M : mM) : fX_chain_L15 M = (fX_refuse ((-1002)) M).bind fun q1 => some (q1.1, q1.2) := by
  refine (mx_steps 2 (pc' := 19) (ls' := [(0, mR 2 0 0)]) (st' := [mI ((-1002)), mR 2 0 0]) (M' := M) rfl).trans ?_
  refine (mx_callI (z := 67) (as := [mR 2 0 0, mI ((-1002))]) (pc' := 22) (ls' := [(0, mR 2 0 0)]) (r := []) rfl (Or.inl rfl)).trans ?_
  refine mi_bdc fun q1 => ?_
  exact mx_ret rfl rfl

set_option maxRecDepth 20000 in
theorem fX_ring_eq (a1 : Int32) (M : mM) : fX_ring a1 M = (fN_hasNode (M.2.1 0) a1 M).bind fun q1 => (if ¬ q1.1 = 0 then (fN_isRing (q1.2.2.1 0) a1 q1.2).bind fun q2 => (if q2.1 = 0 then some (0, q2.2) else some (1, q2.2)) else (fX_refuse ((-1002)) q1.2).bind fun q3 => some (q3.1, q3.2)) := by
  refine (mx_steps 3 (pc' := 5) (ls' := [(0, mR 2 0 0), (1, mI a1)]) (st' := [mI a1, mR 0 (M.2.1 0) 0]) (M' := M) rfl).trans ?_
  refine (mx_callI (z := 1) (as := [mR 0 (M.2.1 0) 0, mI a1]) (pc' := 8) (ls' := [(0, mR 2 0 0), (1, mI a1)]) (r := []) rfl (Or.inr rfl)).trans ?_
  refine mi_bdc fun q1 => ?_
  refine (mx_if (c := ¬ q1.1 = 0) (p1 := 19) (l1 := [(0, mR 2 0 0), (1, mI a1)]) (s1 := []) (M1 := q1.2) (p2 := 11) (l2 := [(0, mR 2 0 0), (1, mI a1)]) (s2 := []) (M2 := q1.2) rfl).trans ?_
  refine mi_itc ?_ ?_
  · refine (mx_steps 3 (pc' := 24) (ls' := [(0, mR 2 0 0), (1, mI a1)]) (st' := [mI a1, mR 0 (q1.2.2.1 0) 0]) (M' := q1.2) rfl).trans ?_
    refine (mx_callI (z := 26) (as := [mR 0 (q1.2.2.1 0) 0, mI a1]) (pc' := 27) (ls' := [(0, mR 2 0 0), (1, mI a1)]) (r := []) rfl (Or.inr rfl)).trans ?_
    refine mi_bdc fun q2 => ?_
    refine (mx_if (c := q2.1 = 0) (p1 := 34) (l1 := [(0, mR 2 0 0), (1, mI a1)]) (s1 := []) (M1 := q2.2) (p2 := 30) (l2 := [(0, mR 2 0 0), (1, mI a1)]) (s2 := []) (M2 := q2.2) rfl).trans ?_
    refine mi_itc ?_ ?_
    · refine (mx_steps 1 (pc' := 35) (ls' := [(0, mR 2 0 0), (1, mI a1)]) (st' := [mI 0]) (M' := q2.2) rfl).trans ?_
      exact mx_ret rfl rfl
    · refine (mx_steps 2 (pc' := 35) (ls' := [(0, mR 2 0 0), (1, mI a1)]) (st' := [mI 1]) (M' := q2.2) rfl).trans ?_
      exact mx_ret rfl rfl
  · refine (mx_steps 2 (pc' := 15) (ls' := [(0, mR 2 0 0), (1, mI a1)]) (st' := [mI ((-1002)), mR 2 0 0]) (M' := q1.2) rfl).trans ?_
    refine (mx_callI (z := 67) (as := [mR 2 0 0, mI ((-1002))]) (pc' := 18) (ls' := [(0, mR 2 0 0), (1, mI a1)]) (r := []) rfl (Or.inl rfl)).trans ?_
    refine mi_bdc fun q3 => ?_
    exact mx_ret rfl rfl

set_option maxRecDepth 20000 in
theorem fX_settles_eq (M : mM) : fX_settles M = (fN_copyFrom (M.2.1 1) (M.2.1 0) M).bind fun M1 => fX_settles_L13 0 M1 := by
  refine (mx_steps 4 (pc' := 8) (ls' := [(0, mR 2 0 0)]) (st' := [mR 0 (M.2.1 0) 0, mR 0 (M.2.1 1) 0]) (M' := M) rfl).trans ?_
  refine (mx_callV (z := 0) (as := [mR 0 (M.2.1 1) 0, mR 0 (M.2.1 0) 0]) (pc' := 11) (ls' := [(0, mR 2 0 0)]) (r := []) rfl rfl).trans ?_
  refine mi_bdc fun M1 => ?_
  refine (mx_steps 2 (pc' := 13) (ls' := [(0, mR 2 0 0), (1, mI 0)]) (st' := []) (M' := M1) rfl).trans ?_
  rfl

set_option maxRecDepth 20000 in
theorem fX_settles_L13_eq (v1 : Int32) (M : mM) : fX_settles_L13 v1 M = (if 30 < v1 then some ((-1001), M) else (fN_lookOnce (M.2.1 1) M).bind fun q1 => (if ¬ q1.1 = 0 then fX_settles_L13 (v1 + 1) q1.2 else some (v1, q1.2))) := by
  refine (mx_steps 2 (pc' := 16) (ls' := [(0, mR 2 0 0), (1, mI v1)]) (st' := [mI 30, mI v1]) (M' := M) rfl).trans ?_
  refine (mx_if (c := 30 < v1) (p1 := 37) (l1 := [(0, mR 2 0 0), (1, mI v1)]) (s1 := []) (M1 := M) (p2 := 19) (l2 := [(0, mR 2 0 0), (1, mI v1)]) (s2 := []) (M2 := M) rfl).trans ?_
  refine mi_itc ?_ ?_
  · refine (mx_steps 1 (pc' := 40) (ls' := [(0, mR 2 0 0), (1, mI v1)]) (st' := [mI ((-1001))]) (M' := M) rfl).trans ?_
    exact mx_ret rfl rfl
  · refine (mx_steps 2 (pc' := 23) (ls' := [(0, mR 2 0 0), (1, mI v1)]) (st' := [mR 0 (M.2.1 1) 0]) (M' := M) rfl).trans ?_
    refine (mx_callI (z := 18) (as := [mR 0 (M.2.1 1) 0]) (pc' := 26) (ls' := [(0, mR 2 0 0), (1, mI v1)]) (r := []) rfl (Or.inr rfl)).trans ?_
    refine mi_bdc fun q1 => ?_
    refine (mx_if (c := ¬ q1.1 = 0) (p1 := 31) (l1 := [(0, mR 2 0 0), (1, mI v1)]) (s1 := []) (M1 := q1.2) (p2 := 29) (l2 := [(0, mR 2 0 0), (1, mI v1)]) (s2 := []) (M2 := q1.2) rfl).trans ?_
    refine mi_itc ?_ ?_
    · refine (mx_steps 2 (pc' := 13) (ls' := [(0, mR 2 0 0), (1, mI (v1 + 1))]) (st' := []) (M' := q1.2) rfl).trans ?_
      rfl
    · refine (mx_steps 1 (pc' := 30) (ls' := [(0, mR 2 0 0), (1, mI v1)]) (st' := [mI v1]) (M' := q1.2) rfl).trans ?_
      exact mx_ret rfl rfl

set_option maxRecDepth 20000 in
theorem fX_about_eq (a1 : Int32) (a2 : Int32) (M : mM) : fX_about a1 a2 M = (fN_hasLink (M.2.1 0) a1 M).bind fun q1 => (if q1.1 = 0 then fX_about_L21 q1.2 else (fX_isWithin a2 0 9 q1.2).bind fun q2 => (if ¬ q2.1 = 0 then (mi_ix a1 10).bind fun k3 => (mi_ix a2 10).bind fun k4 => some (q2.2.1 0 (q2.2.2.1 0) (54 + 10 * k3 + k4), q2.2) else fX_about_L21 q2.2)) := by
  refine (mx_steps 3 (pc' := 5) (ls' := [(0, mR 2 0 0), (1, mI a1), (2, mI a2)]) (st' := [mI a1, mR 0 (M.2.1 0) 0]) (M' := M) rfl).trans ?_
  refine (mx_callI (z := 2) (as := [mR 0 (M.2.1 0) 0, mI a1]) (pc' := 8) (ls' := [(0, mR 2 0 0), (1, mI a1), (2, mI a2)]) (r := []) rfl (Or.inr rfl)).trans ?_
  refine mi_bdc fun q1 => ?_
  refine (mx_if (c := q1.1 = 0) (p1 := 21) (l1 := [(0, mR 2 0 0)]) (s1 := []) (M1 := q1.2) (p2 := 11) (l2 := [(0, mR 2 0 0), (1, mI a1), (2, mI a2)]) (s2 := []) (M2 := q1.2) rfl).trans ?_
  refine mi_itc ?_ ?_
  · rfl
  · refine (mx_steps 3 (pc' := 15) (ls' := [(0, mR 2 0 0), (1, mI a1), (2, mI a2)]) (st' := [mI 9, mI 0, mI a2]) (M' := q1.2) rfl).trans ?_
    refine (mx_callI (z := 63) (as := [mI a2, mI 0, mI 9]) (pc' := 18) (ls' := [(0, mR 2 0 0), (1, mI a1), (2, mI a2)]) (r := []) rfl (Or.inr rfl)).trans ?_
    refine mi_bdc fun q2 => ?_
    refine (mx_if (c := ¬ q2.1 = 0) (p1 := 29) (l1 := [(0, mR 2 0 0), (1, mI a1), (2, mI a2)]) (s1 := []) (M1 := q2.2) (p2 := 21) (l2 := [(0, mR 2 0 0)]) (s2 := []) (M2 := q2.2) rfl).trans ?_
    refine mi_itc ?_ ?_
    · refine (mx_steps 4 (pc' := 37) (ls' := [(0, mR 2 0 0), (1, mI a1), (2, mI a2)]) (st' := [mI a1, mR 13 (q2.2.2.1 0) 0]) (M' := q2.2) rfl).trans ?_
      refine (mx_ix (i := a1) (n := 10) (pc' := 38) (ls' := [(0, mR 2 0 0), (1, mI a1), (2, mI a2)]) (sf := fun k3 => [mR 14 (q2.2.2.1 0) k3]) (Mf := fun k3 => q2.2) rfl).trans ?_
      refine mi_bdc fun k3 => ?_
      refine (mx_steps 1 (pc' := 39) (ls' := [(0, mR 2 0 0), (1, mI a1), (2, mI a2)]) (st' := [mI a2, mR 14 (q2.2.2.1 0) k3]) (M' := q2.2) rfl).trans ?_
      refine (mx_ix (i := a2) (n := 10) (pc' := 40) (ls' := [(0, mR 2 0 0), (1, mI a1), (2, mI a2)]) (sf := fun k4 => [mI (q2.2.1 0 (q2.2.2.1 0) (54 + 10 * k3 + k4))]) (Mf := fun k4 => q2.2) rfl).trans ?_
      refine mi_bdc fun k4 => ?_
      exact mx_ret rfl rfl
    · rfl

set_option maxRecDepth 20000 in
theorem fX_about_L21_eq (M : mM) : fX_about_L21 M = (fX_refuse ((-1002)) M).bind fun q1 => some (q1.1, q1.2) := by
  refine (mx_steps 2 (pc' := 25) (ls' := [(0, mR 2 0 0)]) (st' := [mI ((-1002)), mR 2 0 0]) (M' := M) rfl).trans ?_
  refine (mx_callI (z := 67) (as := [mR 2 0 0, mI ((-1002))]) (pc' := 28) (ls' := [(0, mR 2 0 0)]) (r := []) rfl (Or.inl rfl)).trans ?_
  refine mi_bdc fun q1 => ?_
  exact mx_ret rfl rfl

set_option maxRecDepth 20000 in
theorem fX_till_eq (a1 : Int32) (M : mM) : fX_till a1 M = (fN_hasLink (M.2.1 0) a1 M).bind fun q1 => (if ¬ q1.1 = 0 then (mi_ix a1 10).bind fun k2 => (fN_ticksTillSlip (q1.2.2.1 0) k2 q1.2).bind fun q3 => some (q3.1, q3.2) else (fX_refuse ((-1002)) q1.2).bind fun q4 => some (q4.1, q4.2)) := by
  refine (mx_steps 3 (pc' := 5) (ls' := [(0, mR 2 0 0), (1, mI a1)]) (st' := [mI a1, mR 0 (M.2.1 0) 0]) (M' := M) rfl).trans ?_
  refine (mx_callI (z := 2) (as := [mR 0 (M.2.1 0) 0, mI a1]) (pc' := 8) (ls' := [(0, mR 2 0 0), (1, mI a1)]) (r := []) rfl (Or.inr rfl)).trans ?_
  refine mi_bdc fun q1 => ?_
  refine (mx_if (c := ¬ q1.1 = 0) (p1 := 19) (l1 := [(0, mR 2 0 0), (1, mI a1)]) (s1 := []) (M1 := q1.2) (p2 := 11) (l2 := [(0, mR 2 0 0), (1, mI a1)]) (s2 := []) (M2 := q1.2) rfl).trans ?_
  refine mi_itc ?_ ?_
  · refine (mx_steps 6 (pc' := 31) (ls' := [(0, mR 2 0 0), (1, mI a1)]) (st' := [mI a1, mR 13 (q1.2.2.1 0) 0, mR 0 (q1.2.2.1 0) 0]) (M' := q1.2) rfl).trans ?_
    refine (mx_ix (i := a1) (n := 10) (pc' := 32) (ls' := [(0, mR 2 0 0), (1, mI a1)]) (sf := fun k2 => [mR 14 (q1.2.2.1 0) k2, mR 0 (q1.2.2.1 0) 0]) (Mf := fun k2 => q1.2) rfl).trans ?_
    refine mi_bdc fun k2 => ?_
    refine (mx_callI (z := 24) (as := [mR 0 (q1.2.2.1 0) 0, mR 14 (q1.2.2.1 0) k2]) (pc' := 35) (ls' := [(0, mR 2 0 0), (1, mI a1)]) (r := []) rfl (Or.inl rfl)).trans ?_
    refine mi_bdc fun q3 => ?_
    exact mx_ret rfl rfl
  · refine (mx_steps 2 (pc' := 15) (ls' := [(0, mR 2 0 0), (1, mI a1)]) (st' := [mI ((-1002)), mR 2 0 0]) (M' := q1.2) rfl).trans ?_
    refine (mx_callI (z := 67) (as := [mR 2 0 0, mI ((-1002))]) (pc' := 18) (ls' := [(0, mR 2 0 0), (1, mI a1)]) (r := []) rfl (Or.inl rfl)).trans ?_
    refine mi_bdc fun q4 => ?_
    exact mx_ret rfl rfl

set_option maxRecDepth 20000 in
theorem fX_count_eq (a1 : Int32) (M : mM) : fX_count a1 M = (fX_isWithin a1 0 9 M).bind fun q1 => (if ¬ q1.1 = 0 then (fN_counted (q1.2.2.1 0) a1 q1.2).bind fun q2 => some (q2.1, q2.2) else (fX_refuse ((-1002)) q1.2).bind fun q3 => some (q3.1, q3.2)) := by
  refine (mx_steps 3 (pc' := 4) (ls' := [(0, mR 2 0 0), (1, mI a1)]) (st' := [mI 9, mI 0, mI a1]) (M' := M) rfl).trans ?_
  refine (mx_callI (z := 63) (as := [mI a1, mI 0, mI 9]) (pc' := 7) (ls' := [(0, mR 2 0 0), (1, mI a1)]) (r := []) rfl (Or.inr rfl)).trans ?_
  refine mi_bdc fun q1 => ?_
  refine (mx_if (c := ¬ q1.1 = 0) (p1 := 18) (l1 := [(0, mR 2 0 0), (1, mI a1)]) (s1 := []) (M1 := q1.2) (p2 := 10) (l2 := [(0, mR 2 0 0), (1, mI a1)]) (s2 := []) (M2 := q1.2) rfl).trans ?_
  refine mi_itc ?_ ?_
  · refine (mx_steps 3 (pc' := 23) (ls' := [(0, mR 2 0 0), (1, mI a1)]) (st' := [mI a1, mR 0 (q1.2.2.1 0) 0]) (M' := q1.2) rfl).trans ?_
    refine (mx_callI (z := 27) (as := [mR 0 (q1.2.2.1 0) 0, mI a1]) (pc' := 26) (ls' := [(0, mR 2 0 0), (1, mI a1)]) (r := []) rfl (Or.inl rfl)).trans ?_
    refine mi_bdc fun q2 => ?_
    exact mx_ret rfl rfl
  · refine (mx_steps 2 (pc' := 14) (ls' := [(0, mR 2 0 0), (1, mI a1)]) (st' := [mI ((-1002)), mR 2 0 0]) (M' := q1.2) rfl).trans ?_
    refine (mx_callI (z := 67) (as := [mR 2 0 0, mI ((-1002))]) (pc' := 17) (ls' := [(0, mR 2 0 0), (1, mI a1)]) (r := []) rfl (Or.inl rfl)).trans ?_
    refine mi_bdc fun q3 => ?_
    exact mx_ret rfl rfl

set_option maxRecDepth 20000 in
theorem fX_type_eq (a1 : Int32) (M : mM) : fX_type a1 M = (fX_isWithin a1 0 127 M).bind fun q1 => (if ¬ q1.1 = 0 then (fS_append a1 q1.2).bind fun q2 => (if ¬ q2.1 = 0 then some (q2.2.1 6 0 0, q2.2) else (fX_refuse ((-1004)) q2.2).bind fun q3 => some (q3.1, q3.2)) else (fX_refuse ((-1002)) q1.2).bind fun q4 => some (q4.1, q4.2)) := by
  refine (mx_steps 3 (pc' := 4) (ls' := [(0, mR 2 0 0), (1, mI a1)]) (st' := [mI 127, mI 0, mI a1]) (M' := M) rfl).trans ?_
  refine (mx_callI (z := 63) (as := [mI a1, mI 0, mI 127]) (pc' := 7) (ls' := [(0, mR 2 0 0), (1, mI a1)]) (r := []) rfl (Or.inr rfl)).trans ?_
  refine mi_bdc fun q1 => ?_
  refine (mx_if (c := ¬ q1.1 = 0) (p1 := 18) (l1 := [(0, mR 2 0 0), (1, mI a1)]) (s1 := []) (M1 := q1.2) (p2 := 10) (l2 := [(0, mR 2 0 0), (1, mI a1)]) (s2 := []) (M2 := q1.2) rfl).trans ?_
  refine mi_itc ?_ ?_
  · refine (mx_steps 3 (pc' := 23) (ls' := [(0, mR 2 0 0), (1, mI a1)]) (st' := [mI a1, mR 1 0 0]) (M' := q1.2) rfl).trans ?_
    refine (mx_callI (z := 31) (as := [mR 1 0 0, mI a1]) (pc' := 26) (ls' := [(0, mR 2 0 0), (1, mI a1)]) (r := []) rfl (Or.inr rfl)).trans ?_
    refine mi_bdc fun q2 => ?_
    refine (mx_if (c := ¬ q2.1 = 0) (p1 := 37) (l1 := [(0, mR 2 0 0), (1, mI a1)]) (s1 := []) (M1 := q2.2) (p2 := 29) (l2 := [(0, mR 2 0 0), (1, mI a1)]) (s2 := []) (M2 := q2.2) rfl).trans ?_
    refine mi_itc ?_ ?_
    · refine (mx_steps 3 (pc' := 44) (ls' := [(0, mR 2 0 0), (1, mI a1)]) (st' := [mI (q2.2.1 6 0 0)]) (M' := q2.2) rfl).trans ?_
      exact mx_ret rfl rfl
    · refine (mx_steps 2 (pc' := 33) (ls' := [(0, mR 2 0 0), (1, mI a1)]) (st' := [mI ((-1004)), mR 2 0 0]) (M' := q2.2) rfl).trans ?_
      refine (mx_callI (z := 67) (as := [mR 2 0 0, mI ((-1004))]) (pc' := 36) (ls' := [(0, mR 2 0 0), (1, mI a1)]) (r := []) rfl (Or.inl rfl)).trans ?_
      refine mi_bdc fun q3 => ?_
      exact mx_ret rfl rfl
  · refine (mx_steps 2 (pc' := 14) (ls' := [(0, mR 2 0 0), (1, mI a1)]) (st' := [mI ((-1002)), mR 2 0 0]) (M' := q1.2) rfl).trans ?_
    refine (mx_callI (z := 67) (as := [mR 2 0 0, mI ((-1002))]) (pc' := 17) (ls' := [(0, mR 2 0 0), (1, mI a1)]) (r := []) rfl (Or.inl rfl)).trans ?_
    refine mi_bdc fun q4 => ?_
    exact mx_ret rfl rfl

set_option maxRecDepth 20000 in
theorem fX_clear_eq (M : mM) : fX_clear M = some (M.1 6 0 0, mi_set M 6 0 0 0) := by
  refine (mx_steps 9 (pc' := 17) (ls' := [(0, mR 2 0 0), (1, mI (M.1 6 0 0))]) (st' := [mI (M.1 6 0 0)]) (M' := mi_set M 6 0 0 0) rfl).trans ?_
  exact mx_ret rfl rfl

set_option maxRecDepth 20000 in
theorem fX_does_eq (M : mM) : fX_does M = (fS_read M).bind fun q1 => (if ¬ q1.1 = 0 then (fN_copyFrom (q1.2.2.1 1) (q1.2.2.1 0) q1.2).bind fun M2 => fX_does_L34 0 M2 else some (((-10)) - (q1.2.1 6 0 1), q1.2)) := by
  refine (mx_steps 2 (pc' := 4) (ls' := [(0, mR 2 0 0)]) (st' := [mR 1 0 0]) (M' := M) rfl).trans ?_
  refine (mx_callI (z := 32) (as := [mR 1 0 0]) (pc' := 7) (ls' := [(0, mR 2 0 0)]) (r := []) rfl (Or.inr rfl)).trans ?_
  refine mi_bdc fun q1 => ?_
  refine (mx_if (c := ¬ q1.1 = 0) (p1 := 21) (l1 := [(0, mR 2 0 0)]) (s1 := []) (M1 := q1.2) (p2 := 10) (l2 := [(0, mR 2 0 0)]) (s2 := []) (M2 := q1.2) rfl).trans ?_
  refine mi_itc ?_ ?_
  · refine (mx_steps 4 (pc' := 29) (ls' := [(0, mR 2 0 0)]) (st' := [mR 0 (q1.2.2.1 0) 0, mR 0 (q1.2.2.1 1) 0]) (M' := q1.2) rfl).trans ?_
    refine (mx_callV (z := 0) (as := [mR 0 (q1.2.2.1 1) 0, mR 0 (q1.2.2.1 0) 0]) (pc' := 32) (ls' := [(0, mR 2 0 0)]) (r := []) rfl rfl).trans ?_
    refine mi_bdc fun M2 => ?_
    refine (mx_steps 2 (pc' := 34) (ls' := [(0, mR 2 0 0), (1, mI 0)]) (st' := []) (M' := M2) rfl).trans ?_
    rfl
  · refine (mx_steps 5 (pc' := 20) (ls' := [(0, mR 2 0 0)]) (st' := [mI (((-10)) - (q1.2.1 6 0 1))]) (M' := q1.2) rfl).trans ?_
    exact mx_ret rfl rfl

set_option maxRecDepth 20000 in
theorem fX_does_L34_eq (v1 : Int32) (M : mM) : fX_does_L34 v1 M = (if (M.1 6 0 2) ≤ v1 then (fX_keepTrial M).bind fun M1 => some (M1.1 6 0 2, M1) else (mi_ix v1 40).bind fun k2 => (mi_ix 0 4).bind fun k3 => (mi_ix 1 4).bind fun k4 => (mi_ix 2 4).bind fun k5 => (mi_ix 3 4).bind fun k6 => (fN_carryOut (M.2.1 1) (M.1 5 0 (4 * k2 + k3)) (M.1 5 0 (4 * k2 + k4)) (M.1 5 0 (4 * k2 + k5)) (M.1 5 0 (4 * k2 + k6)) M).bind fun q7 => (if 0 ≤ q7.1 then fX_does_L34 (v1 + 1) q7.2 else some (((-2000)) - v1, q7.2))) := by
  refine (mx_steps 4 (pc' := 42) (ls' := [(0, mR 2 0 0), (1, mI v1)]) (st' := [mI (M.1 6 0 2), mI v1]) (M' := M) rfl).trans ?_
  refine (mx_if (c := (M.1 6 0 2) ≤ v1) (p1 := 89) (l1 := [(0, mR 2 0 0), (1, mI v1)]) (s1 := []) (M1 := M) (p2 := 45) (l2 := [(0, mR 2 0 0), (1, mI v1)]) (s2 := []) (M2 := M) rfl).trans ?_
  refine mi_itc ?_ ?_
  · refine (mx_steps 1 (pc' := 90) (ls' := [(0, mR 2 0 0), (1, mI v1)]) (st' := [mR 2 0 0]) (M' := M) rfl).trans ?_
    refine (mx_callV (z := 65) (as := [mR 2 0 0]) (pc' := 93) (ls' := [(0, mR 2 0 0), (1, mI v1)]) (r := []) rfl rfl).trans ?_
    refine mi_bdc fun M1 => ?_
    refine (mx_steps 3 (pc' := 100) (ls' := [(0, mR 2 0 0), (1, mI v1)]) (st' := [mI (M1.1 6 0 2)]) (M' := M1) rfl).trans ?_
    exact mx_ret rfl rfl
  · refine (mx_steps 4 (pc' := 53) (ls' := [(0, mR 2 0 0), (1, mI v1)]) (st' := [mI v1, mR 20 0 0]) (M' := M) rfl).trans ?_
    refine (mx_ix (i := v1) (n := 40) (pc' := 54) (ls' := [(0, mR 2 0 0), (1, mI v1)]) (sf := fun k2 => [mR 21 0 k2]) (Mf := fun k2 => M) rfl).trans ?_
    refine mi_bdc fun k2 => ?_
    refine (mx_steps 5 (pc' := 61) (ls' := [(0, mR 2 0 0), (1, mI v1), (2, mR 21 0 k2)]) (st' := [mI 0, mR 21 0 k2, mR 0 (M.2.1 1) 0]) (M' := M) rfl).trans ?_
    refine (mx_ix (i := 0) (n := 4) (pc' := 62) (ls' := [(0, mR 2 0 0), (1, mI v1), (2, mR 21 0 k2)]) (sf := fun k3 => [mI (M.1 5 0 (4 * k2 + k3)), mR 0 (M.2.1 1) 0]) (Mf := fun k3 => M) rfl).trans ?_
    refine mi_bdc fun k3 => ?_
    refine (mx_steps 2 (pc' := 64) (ls' := [(0, mR 2 0 0), (1, mI v1), (2, mR 21 0 k2)]) (st' := [mI 1, mR 21 0 k2, mI (M.1 5 0 (4 * k2 + k3)), mR 0 (M.2.1 1) 0]) (M' := M) rfl).trans ?_
    refine (mx_ix (i := 1) (n := 4) (pc' := 65) (ls' := [(0, mR 2 0 0), (1, mI v1), (2, mR 21 0 k2)]) (sf := fun k4 => [mI (M.1 5 0 (4 * k2 + k4)), mI (M.1 5 0 (4 * k2 + k3)), mR 0 (M.2.1 1) 0]) (Mf := fun k4 => M) rfl).trans ?_
    refine mi_bdc fun k4 => ?_
    refine (mx_steps 2 (pc' := 67) (ls' := [(0, mR 2 0 0), (1, mI v1), (2, mR 21 0 k2)]) (st' := [mI 2, mR 21 0 k2, mI (M.1 5 0 (4 * k2 + k4)), mI (M.1 5 0 (4 * k2 + k3)), mR 0 (M.2.1 1) 0]) (M' := M) rfl).trans ?_
    refine (mx_ix (i := 2) (n := 4) (pc' := 68) (ls' := [(0, mR 2 0 0), (1, mI v1), (2, mR 21 0 k2)]) (sf := fun k5 => [mI (M.1 5 0 (4 * k2 + k5)), mI (M.1 5 0 (4 * k2 + k4)), mI (M.1 5 0 (4 * k2 + k3)), mR 0 (M.2.1 1) 0]) (Mf := fun k5 => M) rfl).trans ?_
    refine mi_bdc fun k5 => ?_
    refine (mx_steps 2 (pc' := 70) (ls' := [(0, mR 2 0 0), (1, mI v1), (2, mR 21 0 k2)]) (st' := [mI 3, mR 21 0 k2, mI (M.1 5 0 (4 * k2 + k5)), mI (M.1 5 0 (4 * k2 + k4)), mI (M.1 5 0 (4 * k2 + k3)), mR 0 (M.2.1 1) 0]) (M' := M) rfl).trans ?_
    refine (mx_ix (i := 3) (n := 4) (pc' := 71) (ls' := [(0, mR 2 0 0), (1, mI v1), (2, mR 21 0 k2)]) (sf := fun k6 => [mI (M.1 5 0 (4 * k2 + k6)), mI (M.1 5 0 (4 * k2 + k5)), mI (M.1 5 0 (4 * k2 + k4)), mI (M.1 5 0 (4 * k2 + k3)), mR 0 (M.2.1 1) 0]) (Mf := fun k6 => M) rfl).trans ?_
    refine mi_bdc fun k6 => ?_
    refine (mx_callI (z := 3) (as := [mR 0 (M.2.1 1) 0, mI (M.1 5 0 (4 * k2 + k3)), mI (M.1 5 0 (4 * k2 + k4)), mI (M.1 5 0 (4 * k2 + k5)), mI (M.1 5 0 (4 * k2 + k6))]) (pc' := 74) (ls' := [(0, mR 2 0 0), (1, mI v1), (2, mR 21 0 k2)]) (r := []) rfl (Or.inl rfl)).trans ?_
    refine mi_bdc fun q7 => ?_
    refine (mx_if (c := 0 ≤ q7.1) (p1 := 83) (l1 := [(0, mR 2 0 0), (1, mI v1), (2, mR 21 0 k2)]) (s1 := []) (M1 := q7.2) (p2 := 77) (l2 := [(0, mR 2 0 0), (1, mI v1), (2, mR 21 0 k2)]) (s2 := []) (M2 := q7.2) rfl).trans ?_
    refine mi_itc ?_ ?_
    · refine (mx_steps 2 (pc' := 34) (ls' := [(0, mR 2 0 0), (1, mI (v1 + 1))]) (st' := []) (M' := q7.2) rfl).trans ?_
      rfl
    · refine (mx_steps 3 (pc' := 82) (ls' := [(0, mR 2 0 0), (1, mI v1), (2, mR 21 0 k2)]) (st' := [mI (((-2000)) - v1)]) (M' := q7.2) rfl).trans ?_
      exact mx_ret rfl rfl

set_option maxRecDepth 20000 in
theorem fX_back_eq (M : mM) : fX_back M = (if ¬ (M.1 3 0 0) = 0 then (mi_ix ((mi_set M 3 0 0 ((M.1 3 0 0) - 1)).1 3 0 0) 5).bind fun k1 => (mi_ix ((mi_setS (mi_set M 3 0 0 ((M.1 3 0 0) - 1)) 0 ((mi_set M 3 0 0 ((M.1 3 0 0) - 1)).2.1 (2 + k1))).1 3 0 0) 5).bind fun k2 => some ((mi_setS (mi_setS (mi_set M 3 0 0 ((M.1 3 0 0) - 1)) 0 ((mi_set M 3 0 0 ((M.1 3 0 0) - 1)).2.1 (2 + k1))) (2 + k2) ((mi_set M 3 0 0 ((M.1 3 0 0) - 1)).2.1 0)).1 3 0 0, mi_setS (mi_setS (mi_set M 3 0 0 ((M.1 3 0 0) - 1)) 0 ((mi_set M 3 0 0 ((M.1 3 0 0) - 1)).2.1 (2 + k1))) (2 + k2) ((mi_set M 3 0 0 ((M.1 3 0 0) - 1)).2.1 0)) else (fX_refuse ((-1003)) M).bind fun q3 => some (q3.1, q3.2)) := by
  refine (mx_steps 2 (pc' := 4) (ls' := [(0, mR 2 0 0)]) (st' := [mI (M.1 3 0 0)]) (M' := M) rfl).trans ?_
  refine (mx_if (c := ¬ (M.1 3 0 0) = 0) (p1 := 15) (l1 := [(0, mR 2 0 0)]) (s1 := []) (M1 := M) (p2 := 7) (l2 := [(0, mR 2 0 0)]) (s2 := []) (M2 := M) rfl).trans ?_
  refine mi_itc ?_ ?_
  · refine (mx_steps 14 (pc' := 39) (ls' := [(0, mR 2 0 0), (1, mR 0 ((mi_set M 3 0 0 ((M.1 3 0 0) - 1)).2.1 0) 0)]) (st' := [mI ((mi_set M 3 0 0 ((M.1 3 0 0) - 1)).1 3 0 0), mR 10 0 0, mR 2 0 0]) (M' := mi_set M 3 0 0 ((M.1 3 0 0) - 1)) rfl).trans ?_
    refine (mx_ix (i := (mi_set M 3 0 0 ((M.1 3 0 0) - 1)).1 3 0 0) (n := 5) (pc' := 40) (ls' := [(0, mR 2 0 0), (1, mR 0 ((mi_set M 3 0 0 ((M.1 3 0 0) - 1)).2.1 0) 0)]) (sf := fun k1 => [mR 0 ((mi_set M 3 0 0 ((M.1 3 0 0) - 1)).2.1 (2 + k1)) 0, mR 2 0 0]) (Mf := fun k1 => mi_set M 3 0 0 ((M.1 3 0 0) - 1)) rfl).trans ?_
    refine mi_bdc fun k1 => ?_
    refine (mx_steps 6 (pc' := 52) (ls' := [(0, mR 2 0 0), (1, mR 0 ((mi_set M 3 0 0 ((M.1 3 0 0) - 1)).2.1 0) 0)]) (st' := [mR 0 ((mi_set M 3 0 0 ((M.1 3 0 0) - 1)).2.1 0) 0, mI ((mi_setS (mi_set M 3 0 0 ((M.1 3 0 0) - 1)) 0 ((mi_set M 3 0 0 ((M.1 3 0 0) - 1)).2.1 (2 + k1))).1 3 0 0), mR 10 0 0]) (M' := mi_setS (mi_set M 3 0 0 ((M.1 3 0 0) - 1)) 0 ((mi_set M 3 0 0 ((M.1 3 0 0) - 1)).2.1 (2 + k1))) rfl).trans ?_
    refine (mx_ix (i := (mi_setS (mi_set M 3 0 0 ((M.1 3 0 0) - 1)) 0 ((mi_set M 3 0 0 ((M.1 3 0 0) - 1)).2.1 (2 + k1))).1 3 0 0) (n := 5) (pc' := 53) (ls' := [(0, mR 2 0 0), (1, mR 0 ((mi_set M 3 0 0 ((M.1 3 0 0) - 1)).2.1 0) 0)]) (sf := fun k2 => []) (Mf := fun k2 => mi_setS (mi_setS (mi_set M 3 0 0 ((M.1 3 0 0) - 1)) 0 ((mi_set M 3 0 0 ((M.1 3 0 0) - 1)).2.1 (2 + k1))) (2 + k2) ((mi_set M 3 0 0 ((M.1 3 0 0) - 1)).2.1 0)) rfl).trans ?_
    refine mi_bdc fun k2 => ?_
    refine (mx_steps 2 (pc' := 57) (ls' := [(0, mR 2 0 0), (1, mR 0 ((mi_set M 3 0 0 ((M.1 3 0 0) - 1)).2.1 0) 0)]) (st' := [mI ((mi_setS (mi_setS (mi_set M 3 0 0 ((M.1 3 0 0) - 1)) 0 ((mi_set M 3 0 0 ((M.1 3 0 0) - 1)).2.1 (2 + k1))) (2 + k2) ((mi_set M 3 0 0 ((M.1 3 0 0) - 1)).2.1 0)).1 3 0 0)]) (M' := mi_setS (mi_setS (mi_set M 3 0 0 ((M.1 3 0 0) - 1)) 0 ((mi_set M 3 0 0 ((M.1 3 0 0) - 1)).2.1 (2 + k1))) (2 + k2) ((mi_set M 3 0 0 ((M.1 3 0 0) - 1)).2.1 0)) rfl).trans ?_
    exact mx_ret rfl rfl
  · refine (mx_steps 2 (pc' := 11) (ls' := [(0, mR 2 0 0)]) (st' := [mI ((-1003)), mR 2 0 0]) (M' := M) rfl).trans ?_
    refine (mx_callI (z := 67) (as := [mR 2 0 0, mI ((-1003))]) (pc' := 14) (ls' := [(0, mR 2 0 0)]) (r := []) rfl (Or.inl rfl)).trans ?_
    refine mi_bdc fun q3 => ?_
    exact mx_ret rfl rfl

set_option maxRecDepth 20000 in
theorem fX_told_eq (a1 : Int32) (M : mM) : fX_told a1 M = (if a1 = 0 then some (M.1 3 0 1, M) else (if a1 = 1 then some (M.1 3 0 2, M) else (if a1 = 2 then some (M.1 3 0 3, M) else (if a1 = 3 then some (M.1 6 0 0, M) else (if a1 = 4 then some (M.1 3 0 0, M) else (fX_refuse ((-1002)) M).bind fun q1 => some (q1.1, q1.2)))))) := by
  refine (mx_steps 1 (pc' := 1) (ls' := [(0, mR 2 0 0), (1, mI a1)]) (st' := [mI a1]) (M' := M) rfl).trans ?_
  refine (mx_table (x := a1) (lo := 0) (ts := [36, 41, 46, 51, 59]) (d := 64) rfl).trans ?_
  refine mi_swc (F := fun tg => mi_ex mi_pI 60 tg (mi_jmp 60 tg [(0, mR 2 0 0), (1, mI a1)]) [] M) (k := 0) rfl ?_ ?_
  · show mi_ex mi_pI 60 36 [(0, mR 2 0 0), (1, mI a1)] [] M = _
    refine (mx_steps 2 (pc' := 40) (ls' := [(0, mR 2 0 0), (1, mI a1)]) (st' := [mI (M.1 3 0 1)]) (M' := M) rfl).trans ?_
    exact mx_ret rfl rfl
  refine mi_swc (F := fun tg => mi_ex mi_pI 60 tg (mi_jmp 60 tg [(0, mR 2 0 0), (1, mI a1)]) [] M) (k := 1) rfl ?_ ?_
  · show mi_ex mi_pI 60 41 [(0, mR 2 0 0), (1, mI a1)] [] M = _
    refine (mx_steps 2 (pc' := 45) (ls' := [(0, mR 2 0 0), (1, mI a1)]) (st' := [mI (M.1 3 0 2)]) (M' := M) rfl).trans ?_
    exact mx_ret rfl rfl
  refine mi_swc (F := fun tg => mi_ex mi_pI 60 tg (mi_jmp 60 tg [(0, mR 2 0 0), (1, mI a1)]) [] M) (k := 2) rfl ?_ ?_
  · show mi_ex mi_pI 60 46 [(0, mR 2 0 0), (1, mI a1)] [] M = _
    refine (mx_steps 2 (pc' := 50) (ls' := [(0, mR 2 0 0), (1, mI a1)]) (st' := [mI (M.1 3 0 3)]) (M' := M) rfl).trans ?_
    exact mx_ret rfl rfl
  refine mi_swc (F := fun tg => mi_ex mi_pI 60 tg (mi_jmp 60 tg [(0, mR 2 0 0), (1, mI a1)]) [] M) (k := 3) rfl ?_ ?_
  · show mi_ex mi_pI 60 51 [(0, mR 2 0 0), (1, mI a1)] [] M = _
    refine (mx_steps 3 (pc' := 58) (ls' := [(0, mR 2 0 0), (1, mI a1)]) (st' := [mI (M.1 6 0 0)]) (M' := M) rfl).trans ?_
    exact mx_ret rfl rfl
  refine mi_swc (F := fun tg => mi_ex mi_pI 60 tg (mi_jmp 60 tg [(0, mR 2 0 0), (1, mI a1)]) [] M) (k := 4) rfl ?_ ?_
  · show mi_ex mi_pI 60 59 [(0, mR 2 0 0), (1, mI a1)] [] M = _
    refine (mx_steps 2 (pc' := 63) (ls' := [(0, mR 2 0 0), (1, mI a1)]) (st' := [mI (M.1 3 0 0)]) (M' := M) rfl).trans ?_
    exact mx_ret rfl rfl
  show mi_ex mi_pI 60 64 [(0, mR 2 0 0), (1, mI a1)] [] M = _
  refine (mx_steps 2 (pc' := 68) (ls' := [(0, mR 2 0 0), (1, mI a1)]) (st' := [mI ((-1002)), mR 2 0 0]) (M' := M) rfl).trans ?_
  refine (mx_callI (z := 67) (as := [mR 2 0 0, mI ((-1002))]) (pc' := 71) (ls' := [(0, mR 2 0 0), (1, mI a1)]) (r := []) rfl (Or.inl rfl)).trans ?_
  refine mi_bdc fun q1 => ?_
  exact mx_ret rfl rfl

set_option maxRecDepth 20000 in
theorem fX_digest_eq (M : mM) : fX_digest M = fX_digest_L6 2792 0 M := by
  refine (mx_steps 4 (pc' := 6) (ls' := [(0, mR 2 0 0), (1, mL 2792), (3, mI 0)]) (st' := []) (M' := M) rfl).trans ?_
  rfl

set_option maxRecDepth 20000 in
theorem fX_digest_L6_eq (v1 : Int64) (v3 : Int32) (M : mM) : fX_digest_L6 v1 v3 M = (if 5 ≤ v3 then fX_digest_L32 v1 0 M else (fX_told v3 M).bind fun q1 => fX_digest_L6 ((31 * v1) + q1.1.toInt64) (v3 + 1) q1.2) := by
  refine (mx_steps 2 (pc' := 8) (ls' := [(0, mR 2 0 0), (1, mL v1), (3, mI v3)]) (st' := [mI 5, mI v3]) (M' := M) rfl).trans ?_
  refine (mx_if (c := 5 ≤ v3) (p1 := 30) (l1 := [(0, mR 2 0 0), (1, mL v1), (3, mI v3)]) (s1 := []) (M1 := M) (p2 := 11) (l2 := [(0, mR 2 0 0), (1, mL v1), (3, mI v3)]) (s2 := []) (M2 := M) rfl).trans ?_
  refine mi_itc ?_ ?_
  · refine (mx_steps 2 (pc' := 32) (ls' := [(0, mR 2 0 0), (1, mL v1), (3, mI 0)]) (st' := []) (M' := M) rfl).trans ?_
    rfl
  · refine (mx_steps 5 (pc' := 18) (ls' := [(0, mR 2 0 0), (1, mL v1), (3, mI v3)]) (st' := [mI v3, mR 2 0 0, mL (31 * v1)]) (M' := M) rfl).trans ?_
    refine (mx_callI (z := 60) (as := [mR 2 0 0, mI v3]) (pc' := 21) (ls' := [(0, mR 2 0 0), (1, mL v1), (3, mI v3)]) (r := [mL (31 * v1)]) rfl (Or.inl rfl)).trans ?_
    refine mi_bdc fun q1 => ?_
    refine (mx_steps 5 (pc' := 6) (ls' := [(0, mR 2 0 0), (1, mL ((31 * v1) + q1.1.toInt64)), (3, mI (v3 + 1))]) (st' := []) (M' := q1.2) rfl).trans ?_
    rfl

set_option maxRecDepth 20000 in
theorem fX_digest_L32_eq (v1 : Int64) (v3 : Int32) (M : mM) : fX_digest_L32 v1 v3 M = (if 10 ≤ v3 then fX_digest_L59 v1 0 M else (fX_count v3 M).bind fun q1 => fX_digest_L32 ((31 * v1) + q1.1.toInt64) (v3 + 1) q1.2) := by
  refine (mx_steps 2 (pc' := 35) (ls' := [(0, mR 2 0 0), (1, mL v1), (3, mI v3)]) (st' := [mI 10, mI v3]) (M' := M) rfl).trans ?_
  refine (mx_if (c := 10 ≤ v3) (p1 := 57) (l1 := [(0, mR 2 0 0), (1, mL v1), (3, mI v3)]) (s1 := []) (M1 := M) (p2 := 38) (l2 := [(0, mR 2 0 0), (1, mL v1), (3, mI v3)]) (s2 := []) (M2 := M) rfl).trans ?_
  refine mi_itc ?_ ?_
  · refine (mx_steps 2 (pc' := 59) (ls' := [(0, mR 2 0 0), (1, mL v1), (3, mI 0)]) (st' := []) (M' := M) rfl).trans ?_
    rfl
  · refine (mx_steps 5 (pc' := 45) (ls' := [(0, mR 2 0 0), (1, mL v1), (3, mI v3)]) (st' := [mI v3, mR 2 0 0, mL (31 * v1)]) (M' := M) rfl).trans ?_
    refine (mx_callI (z := 55) (as := [mR 2 0 0, mI v3]) (pc' := 48) (ls' := [(0, mR 2 0 0), (1, mL v1), (3, mI v3)]) (r := [mL (31 * v1)]) rfl (Or.inl rfl)).trans ?_
    refine mi_bdc fun q1 => ?_
    refine (mx_steps 5 (pc' := 32) (ls' := [(0, mR 2 0 0), (1, mL ((31 * v1) + q1.1.toInt64)), (3, mI (v3 + 1))]) (st' := []) (M' := q1.2) rfl).trans ?_
    rfl

set_option maxRecDepth 20000 in
theorem fX_digest_L59_eq (v1 : Int64) (v3 : Int32) (M : mM) : fX_digest_L59 v1 v3 M = (if (M.1 0 (M.2.1 0) 4) ≤ v3 then fX_digest_L103 v1 0 M else (mi_ix v3 6).bind fun k1 => (fX_digestRow12 (M.2.1 0) k1 v1 M).bind fun q2 => (fX_ring v3 q2.2).bind fun q3 => fX_digest_L59 ((31 * q2.1) + q3.1.toInt64) (v3 + 1) q3.2) := by
  refine (mx_steps 4 (pc' := 67) (ls' := [(0, mR 2 0 0), (1, mL v1), (3, mI v3)]) (st' := [mI (M.1 0 (M.2.1 0) 4), mI v3]) (M' := M) rfl).trans ?_
  refine (mx_if (c := (M.1 0 (M.2.1 0) 4) ≤ v3) (p1 := 101) (l1 := [(0, mR 2 0 0), (1, mL v1), (3, mI v3)]) (s1 := []) (M1 := M) (p2 := 70) (l2 := [(0, mR 2 0 0), (1, mL v1), (3, mI v3)]) (s2 := []) (M2 := M) rfl).trans ?_
  refine mi_itc ?_ ?_
  · refine (mx_steps 2 (pc' := 103) (ls' := [(0, mR 2 0 0), (1, mL v1), (3, mI 0)]) (st' := []) (M' := M) rfl).trans ?_
    rfl
  · refine (mx_steps 6 (pc' := 82) (ls' := [(0, mR 2 0 0), (1, mL v1), (3, mI v3)]) (st' := [mI v3, mR 11 (M.2.1 0) 0, mL v1, mL 31]) (M' := M) rfl).trans ?_
    refine (mx_ix (i := v3) (n := 6) (pc' := 83) (ls' := [(0, mR 2 0 0), (1, mL v1), (3, mI v3)]) (sf := fun k1 => [mR 12 (M.2.1 0) k1, mL v1, mL 31]) (Mf := fun k1 => M) rfl).trans ?_
    refine mi_bdc fun k1 => ?_
    refine (mx_callL (z := 62) (as := [mL v1, mR 12 (M.2.1 0) k1]) (pc' := 86) (ls' := [(0, mR 2 0 0), (1, mL v1), (3, mI v3)]) (r := [mL 31]) rfl rfl).trans ?_
    refine mi_bdc fun q2 => ?_
    refine (mx_steps 3 (pc' := 89) (ls' := [(0, mR 2 0 0), (1, mL v1), (3, mI v3)]) (st' := [mI v3, mR 2 0 0, mL (31 * q2.1)]) (M' := q2.2) rfl).trans ?_
    refine (mx_callI (z := 51) (as := [mR 2 0 0, mI v3]) (pc' := 92) (ls' := [(0, mR 2 0 0), (1, mL v1), (3, mI v3)]) (r := [mL (31 * q2.1)]) rfl (Or.inl rfl)).trans ?_
    refine mi_bdc fun q3 => ?_
    refine (mx_steps 5 (pc' := 59) (ls' := [(0, mR 2 0 0), (1, mL ((31 * q2.1) + q3.1.toInt64)), (3, mI (v3 + 1))]) (st' := []) (M' := q3.2) rfl).trans ?_
    rfl

set_option maxRecDepth 20000 in
theorem fX_digest_L103_eq (v1 : Int64) (v3 : Int32) (M : mM) : fX_digest_L103 v1 v3 M = (if (M.1 0 (M.2.1 0) 5) ≤ v3 then (fX_settles M).bind fun q1 => some ((31 * v1) + q1.1.toInt64, q1.2) else (mi_ix v3 10).bind fun k2 => (fX_digestRow14 (M.2.1 0) k2 v1 M).bind fun q3 => (fX_offers v3 0 q3.2).bind fun q4 => fX_digest_L103 ((31 * q3.1) + q4.1.toInt64) (v3 + 1) q4.2) := by
  refine (mx_steps 4 (pc' := 111) (ls' := [(0, mR 2 0 0), (1, mL v1), (3, mI v3)]) (st' := [mI (M.1 0 (M.2.1 0) 5), mI v3]) (M' := M) rfl).trans ?_
  refine (mx_if (c := (M.1 0 (M.2.1 0) 5) ≤ v3) (p1 := 146) (l1 := [(0, mR 2 0 0), (1, mL v1), (3, mI v3)]) (s1 := []) (M1 := M) (p2 := 114) (l2 := [(0, mR 2 0 0), (1, mL v1), (3, mI v3)]) (s2 := []) (M2 := M) rfl).trans ?_
  refine mi_itc ?_ ?_
  · refine (mx_steps 4 (pc' := 152) (ls' := [(0, mR 2 0 0), (1, mL v1), (3, mI v3)]) (st' := [mR 2 0 0, mL (31 * v1)]) (M' := M) rfl).trans ?_
    refine (mx_callI (z := 52) (as := [mR 2 0 0]) (pc' := 155) (ls' := [(0, mR 2 0 0), (1, mL v1), (3, mI v3)]) (r := [mL (31 * v1)]) rfl (Or.inl rfl)).trans ?_
    refine mi_bdc fun q1 => ?_
    refine (mx_steps 2 (pc' := 157) (ls' := [(0, mR 2 0 0), (1, mL v1), (3, mI v3)]) (st' := [mL ((31 * v1) + q1.1.toInt64)]) (M' := q1.2) rfl).trans ?_
    exact mx_ret rfl rfl
  · refine (mx_steps 6 (pc' := 126) (ls' := [(0, mR 2 0 0), (1, mL v1), (3, mI v3)]) (st' := [mI v3, mR 13 (M.2.1 0) 0, mL v1, mL 31]) (M' := M) rfl).trans ?_
    refine (mx_ix (i := v3) (n := 10) (pc' := 127) (ls' := [(0, mR 2 0 0), (1, mL v1), (3, mI v3)]) (sf := fun k2 => [mR 14 (M.2.1 0) k2, mL v1, mL 31]) (Mf := fun k2 => M) rfl).trans ?_
    refine mi_bdc fun k2 => ?_
    refine (mx_callL (z := 62) (as := [mL v1, mR 14 (M.2.1 0) k2]) (pc' := 130) (ls' := [(0, mR 2 0 0), (1, mL v1), (3, mI v3)]) (r := [mL 31]) rfl rfl).trans ?_
    refine mi_bdc fun q3 => ?_
    refine (mx_steps 4 (pc' := 134) (ls' := [(0, mR 2 0 0), (1, mL v1), (3, mI v3)]) (st' := [mI 0, mI v3, mR 2 0 0, mL (31 * q3.1)]) (M' := q3.2) rfl).trans ?_
    refine (mx_callI (z := 48) (as := [mR 2 0 0, mI v3, mI 0]) (pc' := 137) (ls' := [(0, mR 2 0 0), (1, mL v1), (3, mI v3)]) (r := [mL (31 * q3.1)]) rfl (Or.inl rfl)).trans ?_
    refine mi_bdc fun q4 => ?_
    refine (mx_steps 5 (pc' := 103) (ls' := [(0, mR 2 0 0), (1, mL ((31 * q3.1) + q4.1.toInt64)), (3, mI (v3 + 1))]) (st' := []) (M' := q4.2) rfl).trans ?_
    rfl

set_option maxRecDepth 20000 in
theorem fX_digestRow12_eq (j : Nat) (i : Nat) (a0 : Int64) (M : mM) : fX_digestRow12 j i a0 M = fX_digestRow12_L5 j i a0 0 M := by
  refine (mx_steps 4 (pc' := 5) (ls' := [(2, mR 12 j i), (3, mL a0), (5, mI 0)]) (st' := []) (M' := M) rfl).trans ?_
  rfl

set_option maxRecDepth 20000 in
theorem fX_digestRow12_L5_eq (j : Nat) (i : Nat) (v3 : Int64) (v5 : Int32) (M : mM) : fX_digestRow12_L5 j i v3 v5 M = (if (Int32.ofNat 8) ≤ v5 then some (v3, M) else (mi_ix v5 8).bind fun k1 => fX_digestRow12_L5 j i ((31 * v3) + ((M.1 0 j (6 + 8 * i + k1)).toInt64)) (v5 + 1) M) := by
  refine (mx_steps 3 (pc' := 9) (ls' := [(2, mR 12 j i), (3, mL v3), (5, mI v5)]) (st' := [mI (Int32.ofNat 8), mI v5]) (M' := M) rfl).trans ?_
  refine (mx_if (c := (Int32.ofNat 8) ≤ v5) (p1 := 30) (l1 := [(2, mR 12 j i), (3, mL v3), (5, mI v5)]) (s1 := []) (M1 := M) (p2 := 12) (l2 := [(2, mR 12 j i), (3, mL v3), (5, mI v5)]) (s2 := []) (M2 := M) rfl).trans ?_
  refine mi_itc ?_ ?_
  · refine (mx_steps 1 (pc' := 31) (ls' := [(2, mR 12 j i), (3, mL v3), (5, mI v5)]) (st' := [mL v3]) (M' := M) rfl).trans ?_
    exact mx_ret rfl rfl
  · refine (mx_steps 5 (pc' := 20) (ls' := [(2, mR 12 j i), (3, mL v3), (5, mI v5)]) (st' := [mI v5, mR 12 j i, mL (31 * v3)]) (M' := M) rfl).trans ?_
    refine (mx_ix (i := v5) (n := 8) (pc' := 21) (ls' := [(2, mR 12 j i), (3, mL v3), (5, mI v5)]) (sf := fun k1 => [mI (M.1 0 j (6 + 8 * i + k1)), mL (31 * v3)]) (Mf := fun k1 => M) rfl).trans ?_
    refine mi_bdc fun k1 => ?_
    refine (mx_steps 5 (pc' := 5) (ls' := [(2, mR 12 j i), (3, mL ((31 * v3) + ((M.1 0 j (6 + 8 * i + k1)).toInt64))), (5, mI (v5 + 1))]) (st' := []) (M' := M) rfl).trans ?_
    rfl

set_option maxRecDepth 20000 in
theorem fX_digestRow14_eq (j : Nat) (i : Nat) (a0 : Int64) (M : mM) : fX_digestRow14 j i a0 M = fX_digestRow14_L5 j i a0 0 M := by
  refine (mx_steps 4 (pc' := 5) (ls' := [(2, mR 14 j i), (3, mL a0), (5, mI 0)]) (st' := []) (M' := M) rfl).trans ?_
  rfl

set_option maxRecDepth 20000 in
theorem fX_digestRow14_L5_eq (j : Nat) (i : Nat) (v3 : Int64) (v5 : Int32) (M : mM) : fX_digestRow14_L5 j i v3 v5 M = (if (Int32.ofNat 10) ≤ v5 then some (v3, M) else (mi_ix v5 10).bind fun k1 => fX_digestRow14_L5 j i ((31 * v3) + ((M.1 0 j (54 + 10 * i + k1)).toInt64)) (v5 + 1) M) := by
  refine (mx_steps 3 (pc' := 9) (ls' := [(2, mR 14 j i), (3, mL v3), (5, mI v5)]) (st' := [mI (Int32.ofNat 10), mI v5]) (M' := M) rfl).trans ?_
  refine (mx_if (c := (Int32.ofNat 10) ≤ v5) (p1 := 30) (l1 := [(2, mR 14 j i), (3, mL v3), (5, mI v5)]) (s1 := []) (M1 := M) (p2 := 12) (l2 := [(2, mR 14 j i), (3, mL v3), (5, mI v5)]) (s2 := []) (M2 := M) rfl).trans ?_
  refine mi_itc ?_ ?_
  · refine (mx_steps 1 (pc' := 31) (ls' := [(2, mR 14 j i), (3, mL v3), (5, mI v5)]) (st' := [mL v3]) (M' := M) rfl).trans ?_
    exact mx_ret rfl rfl
  · refine (mx_steps 5 (pc' := 20) (ls' := [(2, mR 14 j i), (3, mL v3), (5, mI v5)]) (st' := [mI v5, mR 14 j i, mL (31 * v3)]) (M' := M) rfl).trans ?_
    refine (mx_ix (i := v5) (n := 10) (pc' := 21) (ls' := [(2, mR 14 j i), (3, mL v3), (5, mI v5)]) (sf := fun k1 => [mI (M.1 0 j (54 + 10 * i + k1)), mL (31 * v3)]) (Mf := fun k1 => M) rfl).trans ?_
    refine mi_bdc fun k1 => ?_
    refine (mx_steps 5 (pc' := 5) (ls' := [(2, mR 14 j i), (3, mL ((31 * v3) + ((M.1 0 j (54 + 10 * i + k1)).toInt64))), (5, mI (v5 + 1))]) (st' := []) (M' := M) rfl).trans ?_
    rfl

set_option maxRecDepth 20000 in
theorem fX_isWithin_eq (a0 : Int32) (a1 : Int32) (a2 : Int32) (M : mM) : fX_isWithin a0 a1 a2 M = (if a0 < a1 then some (0, M) else (if a2 < a0 then some (0, M) else some (1, M))) := by
  refine (mx_steps 2 (pc' := 2) (ls' := [(0, mI a0), (1, mI a1), (2, mI a2)]) (st' := [mI a1, mI a0]) (M' := M) rfl).trans ?_
  refine (mx_if (c := a0 < a1) (p1 := 14) (l1 := [(0, mI a0), (1, mI a1), (2, mI a2)]) (s1 := []) (M1 := M) (p2 := 5) (l2 := [(0, mI a0), (1, mI a1), (2, mI a2)]) (s2 := []) (M2 := M) rfl).trans ?_
  refine mi_itc ?_ ?_
  · refine (mx_steps 1 (pc' := 15) (ls' := [(0, mI a0), (1, mI a1), (2, mI a2)]) (st' := [mI 0]) (M' := M) rfl).trans ?_
    exact mx_ret rfl rfl
  · refine (mx_steps 2 (pc' := 7) (ls' := [(0, mI a0), (1, mI a1), (2, mI a2)]) (st' := [mI a2, mI a0]) (M' := M) rfl).trans ?_
    refine (mx_if (c := a2 < a0) (p1 := 14) (l1 := [(0, mI a0), (1, mI a1), (2, mI a2)]) (s1 := []) (M1 := M) (p2 := 10) (l2 := [(0, mI a0), (1, mI a1), (2, mI a2)]) (s2 := []) (M2 := M) rfl).trans ?_
    refine mi_itc ?_ ?_
    · refine (mx_steps 1 (pc' := 15) (ls' := [(0, mI a0), (1, mI a1), (2, mI a2)]) (st' := [mI 0]) (M' := M) rfl).trans ?_
      exact mx_ret rfl rfl
    · refine (mx_steps 2 (pc' := 15) (ls' := [(0, mI a0), (1, mI a1), (2, mI a2)]) (st' := [mI 1]) (M' := M) rfl).trans ?_
      exact mx_ret rfl rfl

set_option maxRecDepth 20000 in
theorem fX_change_eq (a1 : Int32) (a2 : Int32) (a3 : Int32) (a4 : Int32) (M : mM) : fX_change a1 a2 a3 a4 M = (fN_copyFrom (M.2.1 1) (M.2.1 0) M).bind fun M1 => (fN_carryOut (M1.2.1 1) a1 a2 a3 a4 M1).bind fun q2 => (if 0 ≤ q2.1 then (fX_keepTrial q2.2).bind fun M3 => some (q2.1, M3) else (fX_refuse q2.1 q2.2).bind fun q4 => some (q4.1, q4.2)) := by
  refine (mx_steps 4 (pc' := 8) (ls' := [(0, mR 2 0 0), (1, mI a1), (2, mI a2), (3, mI a3), (4, mI a4)]) (st' := [mR 0 (M.2.1 0) 0, mR 0 (M.2.1 1) 0]) (M' := M) rfl).trans ?_
  refine (mx_callV (z := 0) (as := [mR 0 (M.2.1 1) 0, mR 0 (M.2.1 0) 0]) (pc' := 11) (ls' := [(0, mR 2 0 0), (1, mI a1), (2, mI a2), (3, mI a3), (4, mI a4)]) (r := []) rfl rfl).trans ?_
  refine mi_bdc fun M1 => ?_
  refine (mx_steps 6 (pc' := 20) (ls' := [(0, mR 2 0 0), (1, mI a1), (2, mI a2), (3, mI a3), (4, mI a4)]) (st' := [mI a4, mI a3, mI a2, mI a1, mR 0 (M1.2.1 1) 0]) (M' := M1) rfl).trans ?_
  refine (mx_callI (z := 3) (as := [mR 0 (M1.2.1 1) 0, mI a1, mI a2, mI a3, mI a4]) (pc' := 23) (ls' := [(0, mR 2 0 0), (1, mI a1), (2, mI a2), (3, mI a3), (4, mI a4)]) (r := []) rfl (Or.inl rfl)).trans ?_
  refine mi_bdc fun q2 => ?_
  refine (mx_steps 2 (pc' := 27) (ls' := [(0, mR 2 0 0), (1, mI a1), (2, mI a2), (3, mI a3), (4, mI a4), (5, mI q2.1)]) (st' := [mI q2.1]) (M' := q2.2) rfl).trans ?_
  refine (mx_if (c := 0 ≤ q2.1) (p1 := 37) (l1 := [(0, mR 2 0 0), (1, mI a1), (2, mI a2), (3, mI a3), (4, mI a4), (5, mI q2.1)]) (s1 := []) (M1 := q2.2) (p2 := 30) (l2 := [(0, mR 2 0 0), (1, mI a1), (2, mI a2), (3, mI a3), (4, mI a4), (5, mI q2.1)]) (s2 := []) (M2 := q2.2) rfl).trans ?_
  refine mi_itc ?_ ?_
  · refine (mx_steps 1 (pc' := 38) (ls' := [(0, mR 2 0 0), (1, mI a1), (2, mI a2), (3, mI a3), (4, mI a4), (5, mI q2.1)]) (st' := [mR 2 0 0]) (M' := q2.2) rfl).trans ?_
    refine (mx_callV (z := 65) (as := [mR 2 0 0]) (pc' := 41) (ls' := [(0, mR 2 0 0), (1, mI a1), (2, mI a2), (3, mI a3), (4, mI a4), (5, mI q2.1)]) (r := []) rfl rfl).trans ?_
    refine mi_bdc fun M3 => ?_
    refine (mx_steps 1 (pc' := 43) (ls' := [(0, mR 2 0 0), (1, mI a1), (2, mI a2), (3, mI a3), (4, mI a4), (5, mI q2.1)]) (st' := [mI q2.1]) (M' := M3) rfl).trans ?_
    exact mx_ret rfl rfl
  · refine (mx_steps 2 (pc' := 33) (ls' := [(0, mR 2 0 0), (1, mI a1), (2, mI a2), (3, mI a3), (4, mI a4), (5, mI q2.1)]) (st' := [mI q2.1, mR 2 0 0]) (M' := q2.2) rfl).trans ?_
    refine (mx_callI (z := 67) (as := [mR 2 0 0, mI q2.1]) (pc' := 36) (ls' := [(0, mR 2 0 0), (1, mI a1), (2, mI a2), (3, mI a3), (4, mI a4), (5, mI q2.1)]) (r := []) rfl (Or.inl rfl)).trans ?_
    refine mi_bdc fun q4 => ?_
    exact mx_ret rfl rfl

set_option maxRecDepth 20000 in
theorem fX_keepTrial_eq (M : mM) : fX_keepTrial M = (if ¬ (M.1 3 0 0) = 5 then fX_keepTrial_L12 M else (fX_dropOldestState M).bind fun M1 => fX_keepTrial_L12 M1) := by
  refine (mx_steps 3 (pc' := 5) (ls' := [(0, mR 2 0 0)]) (st' := [mI 5, mI (M.1 3 0 0)]) (M' := M) rfl).trans ?_
  refine (mx_if (c := ¬ (M.1 3 0 0) = 5) (p1 := 12) (l1 := [(0, mR 2 0 0)]) (s1 := []) (M1 := M) (p2 := 8) (l2 := [(0, mR 2 0 0)]) (s2 := []) (M2 := M) rfl).trans ?_
  refine mi_itc ?_ ?_
  · rfl
  · refine (mx_steps 1 (pc' := 9) (ls' := [(0, mR 2 0 0)]) (st' := [mR 2 0 0]) (M' := M) rfl).trans ?_
    refine (mx_callV (z := 66) (as := [mR 2 0 0]) (pc' := 12) (ls' := [(0, mR 2 0 0)]) (r := []) rfl rfl).trans ?_
    refine mi_bdc fun M1 => ?_
    rfl

set_option maxRecDepth 20000 in
theorem fX_keepTrial_L12_eq (M : mM) : fX_keepTrial_L12 M = (mi_ix (M.1 3 0 0) 5).bind fun k1 => (mi_ix (M.1 3 0 0) 5).bind fun k2 => some (mi_setS (mi_setS (mi_set (mi_setS M (2 + k2) (M.2.1 0)) 3 0 0 (((mi_setS M (2 + k2) (M.2.1 0)).1 3 0 0) + 1)) 0 ((mi_set (mi_setS M (2 + k2) (M.2.1 0)) 3 0 0 (((mi_setS M (2 + k2) (M.2.1 0)).1 3 0 0) + 1)).2.1 1)) 1 (M.2.1 (2 + k1))) := by
  refine (mx_steps 4 (pc' := 20) (ls' := [(0, mR 2 0 0)]) (st' := [mI (M.1 3 0 0), mR 10 0 0]) (M' := M) rfl).trans ?_
  refine (mx_ix (i := M.1 3 0 0) (n := 5) (pc' := 21) (ls' := [(0, mR 2 0 0)]) (sf := fun k1 => [mR 0 (M.2.1 (2 + k1)) 0]) (Mf := fun k1 => M) rfl).trans ?_
  refine mi_bdc fun k1 => ?_
  refine (mx_steps 7 (pc' := 34) (ls' := [(0, mR 2 0 0), (1, mR 0 (M.2.1 (2 + k1)) 0)]) (st' := [mR 0 (M.2.1 0) 0, mI (M.1 3 0 0), mR 10 0 0]) (M' := M) rfl).trans ?_
  refine (mx_ix (i := M.1 3 0 0) (n := 5) (pc' := 35) (ls' := [(0, mR 2 0 0), (1, mR 0 (M.2.1 (2 + k1)) 0)]) (sf := fun k2 => []) (Mf := fun k2 => mi_setS M (2 + k2) (M.2.1 0)) rfl).trans ?_
  refine mi_bdc fun k2 => ?_
  refine (mx_steps 13 (pc' := 58) (ls' := [(0, mR 2 0 0), (1, mR 0 (M.2.1 (2 + k1)) 0)]) (st' := []) (M' := mi_setS (mi_setS (mi_set (mi_setS M (2 + k2) (M.2.1 0)) 3 0 0 (((mi_setS M (2 + k2) (M.2.1 0)).1 3 0 0) + 1)) 0 ((mi_set (mi_setS M (2 + k2) (M.2.1 0)) 3 0 0 (((mi_setS M (2 + k2) (M.2.1 0)).1 3 0 0) + 1)).2.1 1)) 1 (M.2.1 (2 + k1))) rfl).trans ?_
  exact mx_ret rfl rfl

set_option maxRecDepth 20000 in
theorem fX_dropOldestState_eq (M : mM) : fX_dropOldestState M = (mi_ix 0 5).bind fun k1 => fX_dropOldestState_L9 (M.2.1 (2 + k1)) 1 M := by
  refine (mx_steps 3 (pc' := 5) (ls' := [(0, mR 2 0 0)]) (st' := [mI 0, mR 10 0 0]) (M' := M) rfl).trans ?_
  refine (mx_ix (i := 0) (n := 5) (pc' := 6) (ls' := [(0, mR 2 0 0)]) (sf := fun k1 => [mR 0 (M.2.1 (2 + k1)) 0]) (Mf := fun k1 => M) rfl).trans ?_
  refine mi_bdc fun k1 => ?_
  refine (mx_steps 3 (pc' := 9) (ls' := [(0, mR 2 0 0), (1, mR 0 (M.2.1 (2 + k1)) 0), (2, mI 1)]) (st' := []) (M' := M) rfl).trans ?_
  rfl

set_option maxRecDepth 20000 in
theorem fX_dropOldestState_L9_eq (h1j : Nat) (v2 : Int32) (M : mM) : fX_dropOldestState_L9 h1j v2 M = (if 5 ≤ v2 then (mi_ix 4 5).bind fun k1 => some (mi_set (mi_setS M (2 + k1) h1j) 3 0 0 4) else (mi_ix v2 5).bind fun k2 => (mi_ix (v2 - 1) 5).bind fun k3 => fX_dropOldestState_L9 h1j (v2 + 1) (mi_setS M (2 + k3) (M.2.1 (2 + k2)))) := by
  refine (mx_steps 2 (pc' := 11) (ls' := [(0, mR 2 0 0), (1, mR 0 h1j 0), (2, mI v2)]) (st' := [mI 5, mI v2]) (M' := M) rfl).trans ?_
  refine (mx_if (c := 5 ≤ v2) (p1 := 34) (l1 := [(0, mR 2 0 0), (1, mR 0 h1j 0), (2, mI v2)]) (s1 := []) (M1 := M) (p2 := 14) (l2 := [(0, mR 2 0 0), (1, mR 0 h1j 0), (2, mI v2)]) (s2 := []) (M2 := M) rfl).trans ?_
  refine mi_itc ?_ ?_
  · refine (mx_steps 4 (pc' := 40) (ls' := [(0, mR 2 0 0), (1, mR 0 h1j 0), (2, mI v2)]) (st' := [mR 0 h1j 0, mI 4, mR 10 0 0]) (M' := M) rfl).trans ?_
    refine (mx_ix (i := 4) (n := 5) (pc' := 41) (ls' := [(0, mR 2 0 0), (1, mR 0 h1j 0), (2, mI v2)]) (sf := fun k1 => []) (Mf := fun k1 => mi_setS M (2 + k1) h1j) rfl).trans ?_
    refine mi_bdc fun k1 => ?_
    refine (mx_steps 3 (pc' := 46) (ls' := [(0, mR 2 0 0), (1, mR 0 h1j 0), (2, mI v2)]) (st' := []) (M' := mi_set (mi_setS M (2 + k1) h1j) 3 0 0 4) rfl).trans ?_
    exact mx_ret rfl rfl
  · refine (mx_steps 8 (pc' := 26) (ls' := [(0, mR 2 0 0), (1, mR 0 h1j 0), (2, mI v2)]) (st' := [mI v2, mR 10 0 0, mI (v2 - 1), mR 10 0 0]) (M' := M) rfl).trans ?_
    refine (mx_ix (i := v2) (n := 5) (pc' := 27) (ls' := [(0, mR 2 0 0), (1, mR 0 h1j 0), (2, mI v2)]) (sf := fun k2 => [mR 0 (M.2.1 (2 + k2)) 0, mI (v2 - 1), mR 10 0 0]) (Mf := fun k2 => M) rfl).trans ?_
    refine mi_bdc fun k2 => ?_
    refine (mx_ix (i := v2 - 1) (n := 5) (pc' := 28) (ls' := [(0, mR 2 0 0), (1, mR 0 h1j 0), (2, mI v2)]) (sf := fun k3 => []) (Mf := fun k3 => mi_setS M (2 + k3) (M.2.1 (2 + k2))) rfl).trans ?_
    refine mi_bdc fun k3 => ?_
    refine (mx_steps 2 (pc' := 9) (ls' := [(0, mR 2 0 0), (1, mR 0 h1j 0), (2, mI (v2 + 1))]) (st' := []) (M' := mi_setS M (2 + k3) (M.2.1 (2 + k2))) rfl).trans ?_
    rfl

set_option maxRecDepth 20000 in
theorem fX_refuse_eq (a1 : Int32) (M : mM) : fX_refuse a1 M = (if ¬ a1 = ((-1002)) then (if ¬ a1 = ((-1003)) then some (a1, mi_set M 3 0 3 ((M.1 3 0 3) + 1)) else some (a1, mi_set M 3 0 2 ((M.1 3 0 2) + 1))) else some (a1, mi_set M 3 0 1 ((M.1 3 0 1) + 1))) := by
  refine (mx_steps 2 (pc' := 4) (ls' := [(0, mR 2 0 0), (1, mI a1)]) (st' := [mI ((-1002)), mI a1]) (M' := M) rfl).trans ?_
  refine (mx_if (c := ¬ a1 = ((-1002))) (p1 := 20) (l1 := [(0, mR 2 0 0), (1, mI a1)]) (s1 := []) (M1 := M) (p2 := 7) (l2 := [(0, mR 2 0 0), (1, mI a1)]) (s2 := []) (M2 := M) rfl).trans ?_
  refine mi_itc ?_ ?_
  · refine (mx_steps 2 (pc' := 24) (ls' := [(0, mR 2 0 0), (1, mI a1)]) (st' := [mI ((-1003)), mI a1]) (M' := M) rfl).trans ?_
    refine (mx_if (c := ¬ a1 = ((-1003))) (p1 := 40) (l1 := [(0, mR 2 0 0), (1, mI a1)]) (s1 := []) (M1 := M) (p2 := 27) (l2 := [(0, mR 2 0 0), (1, mI a1)]) (s2 := []) (M2 := M) rfl).trans ?_
    refine mi_itc ?_ ?_
    · refine (mx_steps 7 (pc' := 51) (ls' := [(0, mR 2 0 0), (1, mI a1)]) (st' := [mI a1]) (M' := mi_set M 3 0 3 ((M.1 3 0 3) + 1)) rfl).trans ?_
      exact mx_ret rfl rfl
    · refine (mx_steps 8 (pc' := 51) (ls' := [(0, mR 2 0 0), (1, mI a1)]) (st' := [mI a1]) (M' := mi_set M 3 0 2 ((M.1 3 0 2) + 1)) rfl).trans ?_
      exact mx_ret rfl rfl
  · refine (mx_steps 8 (pc' := 51) (ls' := [(0, mR 2 0 0), (1, mI a1)]) (st' := [mI a1]) (M' := mi_set M 3 0 1 ((M.1 3 0 1) + 1)) rfl).trans ?_
    exact mx_ret rfl rfl

