/-! PURE: the law: every call agrees, to the script's end -/
theorem cL_law {N : Nat} (hN : N ≤ 2048) : ∀ (c i T : Nat) (M : mM), N < i + 4 * c + 4 → i ≤ 4096 → M.1 51 0 0 = nI N → T + 80000 * c < 2000000000 → Rl T M → ∃ M', fL_law_L18 (nI i) M = some (1, M') := by
  intro c
  induction c with
  | zero =>
    intro i T M h1 h2 h51 hT hR
    refine ⟨M, ?_⟩
    rw [fL_law_L18_eq, h51, nI_clp N (by omega), if_pos]
    show nI N - 4 < nI i
    rw [i_lt, i_sub (by rw [i_nI (by omega), show (4 : Int32).toInt = 4 by decide]; omega) (by rw [i_nI (by omega), show (4 : Int32).toInt = 4 by decide]; omega), i_nI (by omega), i_nI (by omega), show (4 : Int32).toInt = 4 by decide]
    omega
  | succ c ih =>
    intro i T M h1 h2 h51 hT hR
    rw [Nat.mul_succ] at hT
    have hT2 : T + 80000 < 2000000000 := Nat.lt_of_le_of_lt (Nat.add_le_add_left (Nat.le_add_left 80000 (80000 * c)) T) hT
    have hT3 : T + 80000 + 80000 * c < 2000000000 := by rw [Nat.add_assoc, Nat.add_comm 80000 (80000 * c)]; exact hT
    have hcond : Int32.ofNat N - 4 < nI i ↔ N < i + 4 := by
      rw [show Int32.ofNat N = nI N from rfl]
      rw [i_lt, i_sub (by rw [i_nI (by omega), show (4 : Int32).toInt = 4 by decide]; omega) (by rw [i_nI (by omega), show (4 : Int32).toInt = 4 by decide]; omega), i_nI (by omega), i_nI (by omega), show (4 : Int32).toInt = 4 by decide]
      omega
    rw [fL_law_L18_eq, h51, nI_clp N (by omega)]
    by_cases hend : N < i + 4
    · exact ⟨M, by rw [if_pos (hcond.mpr hend)]⟩
    rw [if_neg (fun z => hend (hcond.mp z)), mi_ix_n (by omega : i < N) (by omega), Option.bind_some]
    have j1 : mi_ix (nI i + 1) N = some (i + 1) := mi_ix_of (nI_add i 1) (by omega) (by omega)
    have j2 : mi_ix (nI i + 2) N = some (i + 2) := mi_ix_of (nI_add i 2) (by omega) (by omega)
    have j3 : mi_ix (nI i + 3) N = some (i + 3) := mi_ix_of (nI_add i 3) (by omega) (by omega)
    have j4 : nI i + 4 = nI (i + 4) := nI_add i 4
    have go : ∀ M1 M2 : mM, Rl (T + 80000) M2 → frC M M1 → frM M1 M2 → ∃ M', fL_law_L18 (nI (i + 4)) M2 = some (1, M') := fun M1 M2 hR2 f1 f2 =>
      ih (i + 4) (T + 80000) M2 (by omega) (by omega) (by rw [f2.1 51 (by decide), f1.1 51 (by decide)]; exact h51) hT3 hR2
    rw [j4]
    by_cases e0 : (M.1 50 0 i) &&& 31 = 0
    · obtain ⟨a, M1, M2, c1, c2, c3, c4, c5⟩ := ok_node (M.1 50 0 (i + 1)) (M.1 50 0 (i + 2)) T M hT2 hR
      rw [if_pos e0, j1, Option.bind_some, j2, Option.bind_some, c1, Option.bind_some]
      simp only
      rw [c4.1 51 (by decide), c4.1 50 (by decide), h51, nI_clp N (by omega), j1, Option.bind_some, j2, Option.bind_some, c2, Option.bind_some]
      simp only
      rw [if_pos trivial]
      exact go M1 M2 c3 c4 c5
    rw [if_neg e0]
    by_cases e1 : (M.1 50 0 i) &&& 31 = 1
    · obtain ⟨a, M1, M2, c1, c2, c3, c4, c5⟩ := ok_link (M.1 50 0 (i + 1)) (M.1 50 0 (i + 2)) (M.1 50 0 (i + 3)) T M hT2 hR
      rw [if_pos e1, j1, Option.bind_some, j2, Option.bind_some, j3, Option.bind_some, c1, Option.bind_some]
      simp only
      rw [c4.1 51 (by decide), c4.1 50 (by decide), h51, nI_clp N (by omega), j1, Option.bind_some, j2, Option.bind_some, j3, Option.bind_some, c2, Option.bind_some]
      simp only
      rw [if_pos trivial]
      exact go M1 M2 c3 c4 c5
    rw [if_neg e1]
    by_cases e2 : (M.1 50 0 i) &&& 31 = 2
    · obtain ⟨a, M1, M2, c1, c2, c3, c4, c5⟩ := ok_owns (M.1 50 0 (i + 1)) (M.1 50 0 (i + 2)) (M.1 50 0 (i + 3)) T M hT2 hR
      rw [if_pos e2, j1, Option.bind_some, j2, Option.bind_some, j3, Option.bind_some, c1, Option.bind_some]
      simp only
      rw [c4.1 51 (by decide), c4.1 50 (by decide), h51, nI_clp N (by omega), j1, Option.bind_some, j2, Option.bind_some, j3, Option.bind_some, c2, Option.bind_some]
      simp only
      rw [if_pos trivial]
      exact go M1 M2 c3 c4 c5
    rw [if_neg e2]
    by_cases e3 : (M.1 50 0 i) &&& 31 = 3
    · obtain ⟨a, M1, M2, c1, c2, c3, c4, c5⟩ := ok_turns (M.1 50 0 (i + 1)) T M hT2 hR
      rw [if_pos e3, j1, Option.bind_some, c1, Option.bind_some]
      simp only
      rw [c4.1 51 (by decide), c4.1 50 (by decide), h51, nI_clp N (by omega), j1, Option.bind_some, c2, Option.bind_some]
      simp only
      rw [if_pos trivial]
      exact go M1 M2 c3 c4 c5
    rw [if_neg e3]
    by_cases e4 : (M.1 50 0 i) &&& 31 = 4
    · obtain ⟨a, M1, M2, c1, c2, c3, c4, c5⟩ := ok_sets (M.1 50 0 (i + 1)) (M.1 50 0 (i + 2)) T M hT2 hR
      rw [if_pos e4, j1, Option.bind_some, j2, Option.bind_some, c1, Option.bind_some]
      simp only
      rw [c4.1 51 (by decide), c4.1 50 (by decide), h51, nI_clp N (by omega), j1, Option.bind_some, j2, Option.bind_some, c2, Option.bind_some]
      simp only
      rw [if_pos trivial]
      exact go M1 M2 c3 c4 c5
    rw [if_neg e4]
    by_cases e5 : (M.1 50 0 i) &&& 31 = 5
    · obtain ⟨a, M1, M2, c1, c2, c3, c4, c5⟩ := ok_clears (M.1 50 0 (i + 1)) T M hT2 hR
      rw [if_pos e5, j1, Option.bind_some, c1, Option.bind_some]
      simp only
      rw [c4.1 51 (by decide), c4.1 50 (by decide), h51, nI_clp N (by omega), j1, Option.bind_some, c2, Option.bind_some]
      simp only
      rw [if_pos trivial]
      exact go M1 M2 c3 c4 c5
    rw [if_neg e5]
    by_cases e6 : (M.1 50 0 i) &&& 31 = 6
    · obtain ⟨a, M1, M2, c1, c2, c3, c4, c5⟩ := ok_looks (M.1 50 0 (i + 1)) T M hT2 hR
      rw [if_pos e6, j1, Option.bind_some, c1, Option.bind_some]
      simp only
      rw [c4.1 51 (by decide), c4.1 50 (by decide), h51, nI_clp N (by omega), j1, Option.bind_some, c2, Option.bind_some]
      simp only
      rw [if_pos trivial]
      exact go M1 M2 c3 c4 c5
    rw [if_neg e6]
    by_cases e7 : (M.1 50 0 i) &&& 31 = 7
    · obtain ⟨a, M1, M2, c1, c2, c3, c4, c5⟩ := ok_ticks (M.1 50 0 (i + 1)) T M hT2 hR
      rw [if_pos e7, j1, Option.bind_some, c1, Option.bind_some]
      simp only
      rw [c4.1 51 (by decide), c4.1 50 (by decide), h51, nI_clp N (by omega), j1, Option.bind_some, c2, Option.bind_some]
      simp only
      rw [if_pos trivial]
      exact go M1 M2 c3 c4 c5
    rw [if_neg e7]
    by_cases e8 : (M.1 50 0 i) &&& 31 = 8
    · obtain ⟨a, M1, M2, c1, c2, c3, c4, c5⟩ := ok_of (M.1 50 0 (i + 1)) (M.1 50 0 (i + 2)) T M hT2 hR
      rw [if_pos e8, j1, Option.bind_some, j2, Option.bind_some, c1, Option.bind_some]
      simp only
      rw [c4.1 51 (by decide), c4.1 50 (by decide), h51, nI_clp N (by omega), j1, Option.bind_some, j2, Option.bind_some, c2, Option.bind_some]
      simp only
      rw [if_pos trivial]
      exact go M1 M2 c3 c4 c5
    rw [if_neg e8]
    by_cases e9 : (M.1 50 0 i) &&& 31 = 9
    · obtain ⟨a, M1, M2, c1, c2, c3, c4, c5⟩ := ok_offers (M.1 50 0 (i + 1)) (M.1 50 0 (i + 2)) T M hT2 hR
      rw [if_pos e9, j1, Option.bind_some, j2, Option.bind_some, c1, Option.bind_some]
      simp only
      rw [c4.1 51 (by decide), c4.1 50 (by decide), h51, nI_clp N (by omega), j1, Option.bind_some, j2, Option.bind_some, c2, Option.bind_some]
      simp only
      rw [if_pos trivial]
      exact go M1 M2 c3 c4 c5
    rw [if_neg e9]
    by_cases e10 : (M.1 50 0 i) &&& 31 = 10
    · obtain ⟨a, M1, M2, c1, c2, c3, c4, c5⟩ := ok_would (M.1 50 0 (i + 1)) T M hT2 hR
      rw [if_pos e10, j1, Option.bind_some, c1, Option.bind_some]
      simp only
      rw [c4.1 51 (by decide), c4.1 50 (by decide), h51, nI_clp N (by omega), j1, Option.bind_some, c2, Option.bind_some]
      simp only
      rw [if_pos trivial]
      exact go M1 M2 c3 c4 c5
    rw [if_neg e10]
    by_cases e11 : (M.1 50 0 i) &&& 31 = 11
    · obtain ⟨a, M1, M2, c1, c2, c3, c4, c5⟩ := ok_chain (M.1 50 0 (i + 1)) (M.1 50 0 (i + 2)) T M hT2 hR
      rw [if_pos e11, j1, Option.bind_some, j2, Option.bind_some, c1, Option.bind_some]
      simp only
      rw [c4.1 51 (by decide), c4.1 50 (by decide), h51, nI_clp N (by omega), j1, Option.bind_some, j2, Option.bind_some, c2, Option.bind_some]
      simp only
      rw [if_pos trivial]
      exact go M1 M2 c3 c4 c5
    rw [if_neg e11]
    by_cases e12 : (M.1 50 0 i) &&& 31 = 12
    · obtain ⟨a, M1, M2, c1, c2, c3, c4, c5⟩ := ok_ring (M.1 50 0 (i + 1)) T M hT2 hR
      rw [if_pos e12, j1, Option.bind_some, c1, Option.bind_some]
      simp only
      rw [c4.1 51 (by decide), c4.1 50 (by decide), h51, nI_clp N (by omega), j1, Option.bind_some, c2, Option.bind_some]
      simp only
      rw [if_pos trivial]
      exact go M1 M2 c3 c4 c5
    rw [if_neg e12]
    by_cases e13 : (M.1 50 0 i) &&& 31 = 13
    · obtain ⟨a, M1, M2, c1, c2, c3, c4, c5⟩ := ok_settles T M hT2 hR
      rw [if_pos e13, c1, Option.bind_some]
      simp only
      rw [c2, Option.bind_some]
      simp only
      rw [if_pos trivial]
      exact go M1 M2 c3 c4 c5
    rw [if_neg e13]
    by_cases e14 : (M.1 50 0 i) &&& 31 = 14
    · obtain ⟨a, M1, M2, c1, c2, c3, c4, c5⟩ := ok_about (M.1 50 0 (i + 1)) (M.1 50 0 (i + 2)) T M hT2 hR
      rw [if_pos e14, j1, Option.bind_some, j2, Option.bind_some, c1, Option.bind_some]
      simp only
      rw [c4.1 51 (by decide), c4.1 50 (by decide), h51, nI_clp N (by omega), j1, Option.bind_some, j2, Option.bind_some, c2, Option.bind_some]
      simp only
      rw [if_pos trivial]
      exact go M1 M2 c3 c4 c5
    rw [if_neg e14]
    by_cases e15 : (M.1 50 0 i) &&& 31 = 15
    · obtain ⟨a, M1, M2, c1, c2, c3, c4, c5⟩ := ok_till (M.1 50 0 (i + 1)) T M hT2 hR
      rw [if_pos e15, j1, Option.bind_some, c1, Option.bind_some]
      simp only
      rw [c4.1 51 (by decide), c4.1 50 (by decide), h51, nI_clp N (by omega), j1, Option.bind_some, c2, Option.bind_some]
      simp only
      rw [if_pos trivial]
      exact go M1 M2 c3 c4 c5
    rw [if_neg e15]
    by_cases e16 : (M.1 50 0 i) &&& 31 = 16
    · obtain ⟨a, M1, M2, c1, c2, c3, c4, c5⟩ := ok_count (M.1 50 0 (i + 1)) T M hT2 hR
      rw [if_pos e16, j1, Option.bind_some, c1, Option.bind_some]
      simp only
      rw [c4.1 51 (by decide), c4.1 50 (by decide), h51, nI_clp N (by omega), j1, Option.bind_some, c2, Option.bind_some]
      simp only
      rw [if_pos trivial]
      exact go M1 M2 c3 c4 c5
    rw [if_neg e16]
    by_cases e17 : (M.1 50 0 i) &&& 31 = 17
    · obtain ⟨a, M1, M2, c1, c2, c3, c4, c5⟩ := ok_type (M.1 50 0 (i + 1)) T M hT2 hR
      rw [if_pos e17, j1, Option.bind_some, c1, Option.bind_some]
      simp only
      rw [c4.1 51 (by decide), c4.1 50 (by decide), h51, nI_clp N (by omega), j1, Option.bind_some, c2, Option.bind_some]
      simp only
      rw [if_pos trivial]
      exact go M1 M2 c3 c4 c5
    rw [if_neg e17]
    by_cases e18 : (M.1 50 0 i) &&& 31 = 18
    · obtain ⟨a, M1, M2, c1, c2, c3, c4, c5⟩ := ok_clear T M hT2 hR
      rw [if_pos e18, c1, Option.bind_some]
      simp only
      rw [c2, Option.bind_some]
      simp only
      rw [if_pos trivial]
      exact go M1 M2 c3 c4 c5
    rw [if_neg e18]
    by_cases e19 : (M.1 50 0 i) &&& 31 = 19
    · obtain ⟨a, M1, M2, c1, c2, c3, c4, c5⟩ := ok_does T M hT2 hR
      rw [if_pos e19, c1, Option.bind_some]
      simp only
      rw [c2, Option.bind_some]
      simp only
      rw [if_pos trivial]
      exact go M1 M2 c3 c4 c5
    rw [if_neg e19]
    by_cases e20 : (M.1 50 0 i) &&& 31 = 20
    · obtain ⟨a, M1, M2, c1, c2, c3, c4, c5⟩ := ok_back T M hT2 hR
      rw [if_pos e20, c1, Option.bind_some]
      simp only
      rw [c2, Option.bind_some]
      simp only
      rw [if_pos trivial]
      exact go M1 M2 c3 c4 c5
    rw [if_neg e20]
    by_cases e21 : (M.1 50 0 i) &&& 31 = 21
    · obtain ⟨a, M1, M2, c1, c2, c3, c4, c5⟩ := ok_told (M.1 50 0 (i + 1)) T M hT2 hR
      rw [if_pos e21, j1, Option.bind_some, c1, Option.bind_some]
      simp only
      rw [c4.1 51 (by decide), c4.1 50 (by decide), h51, nI_clp N (by omega), j1, Option.bind_some, c2, Option.bind_some]
      simp only
      rw [if_pos trivial]
      exact go M1 M2 c3 c4 c5
    rw [if_neg e21]
    by_cases e22 : (M.1 50 0 i) &&& 31 = 22
    · obtain ⟨a, M1, M2, c1, c2, c3, c4, c5⟩ := ok_digest T M hT2 hR
      rw [if_pos e22, c1, Option.bind_some]
      simp only
      rw [c2, Option.bind_some]
      simp only
      rw [if_pos ((lg_cmp_eq a a).mpr rfl)]
      exact go M1 M2 c3 c4 c5
    rw [if_neg e22]
    have hR2 : Rl (T + 80000) M := by
      obtain ⟨d, t, n, m, v, w, sv, sw, rf, tx, ty, h⟩ := hR
      exact h.get h.2.2.1 (frM.rf M) h.2.2.2.1 (fun _ _ => rfl)
    exact go M M hR2 (frC.rf M) (frM.rf M)
theorem cL_all {N : Nat} (hN : N ≤ 2048) {M : mM} (h51 : M.1 51 0 0 = nI N) (hR : Rl 0 M) : ∃ M', fL_law_L18 0 M = some (1, M') := cL_law hN 512 0 0 M (by omega) (by omega) h51 (by decide) hR
