/-! PURE: count agrees, second half -/
theorem cN_counted {n m T j : Nat} {v : pV} {M : mM} (hv : M.1 0 j = v) (wf : pv_wf n m T v) {i : Nat} (hi : i < 10) : fN_counted j (nI i) M = some (pv_count n m v i, M) := by
  obtain ⟨h4, h5, hn, hm, -⟩ := id wf
  rw [fN_counted_eq]
  rcases (show i = 0 ∨ i = 1 ∨ i = 2 ∨ i = 3 ∨ i = 4 ∨ i = 5 ∨ i = 6 ∨ i = 7 ∨ i = 8 ∨ i = 9 by omega) with rfl | rfl | rfl | rfl | rfl | rfl | rfl | rfl | rfl | rfl
  · rw [if_pos (show nI 0 = 0 from rfl), mi_ix_n (by decide) (by decide), Option.bind_some, hv]; rfl
  · rw [if_neg (by decide), if_pos (show nI 1 = 1 from rfl), mi_ix_n (by decide) (by decide), Option.bind_some, hv]; rfl
  · rw [if_neg (by decide), if_neg (by decide), if_pos (show nI 2 = 2 from rfl), mi_ix_n (by decide) (by decide), Option.bind_some, hv]; rfl
  · rw [if_neg (by decide), if_neg (by decide), if_neg (by decide), if_pos (show nI 3 = 3 from rfl), hv]; rfl
  · rw [if_neg (by decide), if_neg (by decide), if_neg (by decide), if_neg (by decide), if_pos (show nI 4 = 4 from rfl), hv]; rfl
  · rw [if_neg (by decide), if_neg (by decide), if_neg (by decide), if_neg (by decide), if_neg (by decide), if_pos (show nI 5 = 5 from rfl), cN_ref hv h4 hn]; rfl
  · rw [if_neg (by decide), if_neg (by decide), if_neg (by decide), if_neg (by decide), if_neg (by decide), if_neg (by decide), if_pos (show nI 6 = 6 from rfl), fN_ringCount_eq, show fN_ringCount_L4 j 0 0 M = _ from cN_ringsL hv wf n 0 0 (by omega)]; rfl
  · rw [if_neg (by decide), if_neg (by decide), if_neg (by decide), if_neg (by decide), if_neg (by decide), if_neg (by decide), if_neg (by decide), if_pos (show nI 7 = 7 from rfl), fN_sumOfLinks_eq, show fN_sumOfLinks_L4 j 5 0 0 M = _ from cN_sumL hv h5 hm (f := 5) (by decide) m 0 0 (by omega)]; rfl
  · rw [if_neg (by decide), if_neg (by decide), if_neg (by decide), if_neg (by decide), if_neg (by decide), if_neg (by decide), if_neg (by decide), if_neg (by decide), if_pos (show nI 8 = 8 from rfl), fN_sumOfLinks_eq, show fN_sumOfLinks_L4 j 6 0 0 M = _ from cN_sumL hv h5 hm (f := 6) (by decide) m 0 0 (by omega)]; rfl
  · rw [if_neg (by decide), if_neg (by decide), if_neg (by decide), if_neg (by decide), if_neg (by decide), if_neg (by decide), if_neg (by decide), if_neg (by decide), if_neg (by decide), hv]; rfl
theorem cM_counted {n m T d t : Nat} {M : mM} {v tx : pV} {st : Nat → pV} {rf : Nat → Int32} (h : Mst M d v st rf tx t) (wf : pv_wf n m T v) {i : Nat} (hi : i < 10) : ∃ M', frM M M' ∧ Mst M' d v st rf tx t ∧ M'.2.2 = M.2.2 ∧ fM_counted (nI i) M = some (pv_count n m v i, M') := by
  obtain ⟨h4, h5, hn, hm, -⟩ := id wf
  have hv : M.1 30 0 = v := h.2.1
  rw [fM_counted_eq]
  rcases (show i = 0 ∨ i = 1 ∨ i = 2 ∨ i = 3 ∨ i = 4 ∨ i = 5 ∨ i = 6 ∨ i = 7 ∨ i = 8 ∨ i = 9 by omega) with rfl | rfl | rfl | rfl | rfl | rfl | rfl | rfl | rfl | rfl
  · refine ⟨M, frM.rf M, h, rfl, ?_⟩
    rw [if_pos (show nI 0 = 0 from rfl), mi_ix_n (by decide) (by decide), Option.bind_some, hv]; rfl
  · refine ⟨M, frM.rf M, h, rfl, ?_⟩
    rw [if_neg (by decide), if_pos (show nI 1 = 1 from rfl), mi_ix_n (by decide) (by decide), Option.bind_some, hv]; rfl
  · refine ⟨M, frM.rf M, h, rfl, ?_⟩
    rw [if_neg (by decide), if_neg (by decide), if_pos (show nI 2 = 2 from rfl), mi_ix_n (by decide) (by decide), Option.bind_some, hv]; rfl
  · refine ⟨M, frM.rf M, h, rfl, ?_⟩
    rw [if_neg (by decide), if_neg (by decide), if_neg (by decide), if_pos (show nI 3 = 3 from rfl), ix_4_154, Option.bind_some, hv]; rfl
  · refine ⟨M, frM.rf M, h, rfl, ?_⟩
    rw [if_neg (by decide), if_neg (by decide), if_neg (by decide), if_neg (by decide), if_pos (show nI 4 = 4 from rfl), ix_5_154, Option.bind_some, hv]; rfl
  · refine ⟨M, frM.rf M, h, rfl, ?_⟩
    rw [if_neg (by decide), if_neg (by decide), if_neg (by decide), if_neg (by decide), if_neg (by decide), if_pos (show nI 5 = 5 from rfl), cM_ref hv h4 hn]; rfl
  · obtain ⟨M', a1, a2, a3, a4⟩ := cM_ringsL wf n 0 0 M (by omega) h
    refine ⟨M', a1, a2, a3, ?_⟩
    rw [if_neg (by decide), if_neg (by decide), if_neg (by decide), if_neg (by decide), if_neg (by decide), if_neg (by decide), if_pos (show nI 6 = 6 from rfl), fM_rings_eq, show fM_rings_L4 0 0 M = _ from a4]; rfl
  · refine ⟨M, frM.rf M, h, rfl, ?_⟩
    rw [if_neg (by decide), if_neg (by decide), if_neg (by decide), if_neg (by decide), if_neg (by decide), if_neg (by decide), if_neg (by decide), if_pos (show nI 7 = 7 from rfl), fM_sumOf_eq, show fM_sumOf_L4 5 0 0 M = _ from cM_sumL hv h5 hm (f := 5) (by decide) m 0 0 (by omega)]; rfl
  · refine ⟨M, frM.rf M, h, rfl, ?_⟩
    rw [if_neg (by decide), if_neg (by decide), if_neg (by decide), if_neg (by decide), if_neg (by decide), if_neg (by decide), if_neg (by decide), if_neg (by decide), if_pos (show nI 8 = 8 from rfl), fM_sumOf_eq, show fM_sumOf_L4 6 0 0 M = _ from cM_sumL hv h5 hm (f := 6) (by decide) m 0 0 (by omega)]; rfl
  · refine ⟨M, frM.rf M, h, rfl, ?_⟩
    rw [if_neg (by decide), if_neg (by decide), if_neg (by decide), if_neg (by decide), if_neg (by decide), if_neg (by decide), if_neg (by decide), if_neg (by decide), if_neg (by decide), ix_3_154, Option.bind_some, hv]; rfl
theorem cg_sum {n m : Nat} {v w : pV} (h : pv_eq n m v w) {f : Nat} (hf : f < 10) : pv_sum m v f = pv_sum m w f := by
  have L : ∀ (c i : Nat) (x : Int32), i + c = m → mi_lp (fun l x => x + v (54 + 10 * l + f)) c i x = mi_lp (fun l x => x + w (54 + 10 * l + f)) c i x := by
    intro c
    induction c with
    | zero => intro i x _; rfl
    | succ c ih => intro i x hi; rw [mi_lp, mi_lp, h.lk (by omega) hf, ih (i + 1) _ (by omega)]
  exact L m 0 0 (by omega)
theorem lp_cg32 {F G : Nat → Int32 → Int32} : ∀ (c i : Nat) (x : Int32), (∀ k x, i ≤ k → k < i + c → F k x = G k x) → mi_lp F c i x = mi_lp G c i x := by
  intro c
  induction c with
  | zero => intro i x _; rfl
  | succ c ih =>
    intro i x e
    rw [mi_lp_S, mi_lp_S, e i x (by omega) (by omega)]
    exact ih (i + 1) _ (fun k x' h1 h2 => e k x' (by omega) (by omega))
theorem cg_rings {n m T : Nat} {v w : pV} (wf : pv_wf n m T v) (h : pv_eq n m v w) : pv_rings n v = pv_rings n w := by
  unfold pv_rings
  refine lp_cg32 n 0 0 (fun k x _ hk => ?_)
  have e := cg_fol wf h 6 0 (nI k) (Or.inr ⟨k, by omega, rfl⟩)
  exact congrArg (fun q : List Int32 × Bool => x + pv_b q.2) e
theorem cg_count {n m T : Nat} {v w : pV} (wf : pv_wf n m T v) (h : pv_eq n m v w) (i : Nat) : pv_count n m v i = pv_count n m w i := by
  unfold pv_count
  rw [h.lo (show 0 < 6 by decide), h.lo (show 1 < 6 by decide), h.lo (show 2 < 6 by decide), h.lo (show 3 < 6 by decide), h.lo (show 4 < 6 by decide), h.lo (show 5 < 6 by decide), cg_ref h, cg_rings wf h, cg_sum h (show 5 < 10 by decide), cg_sum h (show 6 < 10 by decide)]
theorem cX_count {n m T d t : Nat} {M : mM} {v tx : pV} {st : Nat → pV} {rf : Nat → Int32} (h : Cst M d v st rf tx t) (wf : pv_wf n m T v) {i : Nat} (hi : i < 10) : fX_count (nI i) M = some (pv_count n m v i, M) := by
  have hv : M.1 0 (M.2.1 0) = v := h.2.2.1
  have c2 : pv_in (nI i) 0 9 = true := by
    unfold pv_in
    rw [decide_eq_true_eq, i_lt, i_lt, i_nI (by omega), k_0, k_9]
    omega
  rw [fX_count_eq, cX_isWithin, pv_bt c2, Option.bind_some]
  simp only
  rw [if_pos (by decide), cN_counted hv wf hi]
  rfl
theorem ok_count (a : Int32) : Okc (fX_count a) (fM_count a) := by
  intro T M hT ⟨d, t, n, m, v, w, sv, sw, rf, tx, ty, h⟩
  obtain ⟨h1, h2, h3, h4, h5, h6, h7, h8⟩ := id h
  by_cases c2 : pv_in a 0 9 = true
  · obtain ⟨f, -, hf, rfl⟩ := in_nat (l := 0) (h := 9) k_0 k_9 c2
    obtain ⟨M2, b1, b2, -, b3⟩ := cM_counted h4 (h6.wf h5) (i := f) (by omega)
    refine ⟨pv_count n m v f, M, M2, cX_count h3 h5 (by omega), ?_, h.get h3 b1 b2 (fun _ _ => rfl), frC.rf M, b1⟩
    rw [fM_count_eq, cM_in, pv_bt c2, Option.bind_some]
    simp only
    rw [if_neg (by decide), b3, cg_count h5 h6]
    rfl
  · obtain ⟨M1, M2, a1, a2, a3, a4, a5⟩ := h.no (a := -1002) (Or.inl rfl)
    refine ⟨-1002, M1, M2, ?_, ?_, a3, a4, a5⟩
    · rw [fX_count_eq, cX_isWithin, pv_bf c2, Option.bind_some]
      simp only
      rw [if_neg (by decide), a1]; rfl
    · rw [fM_count_eq, cM_in, pv_bf c2, Option.bind_some]
      simp only
      rw [if_pos trivial, a2]; rfl
