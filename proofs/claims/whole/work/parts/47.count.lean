/-! PURE: chain, ring, count agree -/
theorem ok_ring (a : Int32) : Okc (fX_ring a) (fM_ring a) := by
  intro T M hT ⟨d, t, n, m, v, w, sv, sw, rf, tx, ty, h⟩
  obtain ⟨h1, h2, h3, h4, h5, h6, h7, h8⟩ := id h
  obtain ⟨h54, h55, hn, hm, -⟩ := id h5
  have hv : M.1 0 (M.2.1 0) = v := h3.2.2.1
  have hw : M.1 30 0 = w := h4.2.1
  have eM : ∀ M1 : mM, M1.1 30 0 = w → fM_isNode a M1 = some (pv_b (pv_isn n a), M1) := fun M1 q => cM_isNode q (by rw [← h6.lo (by decide)]; exact h54) hn a
  by_cases c1 : pv_isn n a = true
  · obtain ⟨i, hi, rfl⟩ := pv_isn_of c1 (by omega)
    obtain ⟨M2, b1, b2, -, b3⟩ := cM_ringOf h4 (h6.wf h5) hi
    refine ⟨pv_b (pv_fol v 6 0 (nI i)).2, M, M2, ?_, ?_, h.get h3 b1 b2 (fun _ _ => rfl), frC.rf M, b1⟩
    · rw [fX_ring_eq, cN_hasNode hv h54 hn, pv_bt c1, Option.bind_some]
      simp only
      rw [if_pos (by decide), cN_isRing hv h5 hi, Option.bind_some]
      cases (pv_fol v 6 0 (nI i)).2 <;> rfl
    · rw [fM_ring_eq, eM M hw, pv_bt c1, Option.bind_some]
      simp only
      rw [if_neg (by decide), b3, cg_fol h5 h6 6 0 _ (Or.inr ⟨i, hi, rfl⟩)]
      rfl
  · obtain ⟨M1, M2, a1, a2, a3, a4, a5⟩ := h.no (a := -1002) (Or.inl rfl)
    refine ⟨-1002, M1, M2, ?_, ?_, a3, a4, a5⟩
    · rw [fX_ring_eq, cN_hasNode hv h54 hn, pv_bf c1, Option.bind_some]
      simp only
      rw [if_neg (by decide), a1]; rfl
    · rw [fM_ring_eq, eM M1 (by rw [a4.1 30 (by decide)]; exact hw), pv_bf c1, Option.bind_some]
      simp only
      rw [if_pos trivial, a2]; rfl
theorem ok_chain (a b : Int32) : Okc (fX_chain a b) (fM_chain a b) := by
  intro T M hT ⟨d, t, n, m, v, w, sv, sw, rf, tx, ty, h⟩
  obtain ⟨h1, h2, h3, h4, h5, h6, h7, h8⟩ := id h
  obtain ⟨h54, h55, hn, hm, -⟩ := id h5
  have hv : M.1 0 (M.2.1 0) = v := h3.2.2.1
  have hw : M.1 30 0 = w := h4.2.1
  have eM : ∀ M1 : mM, M1.1 30 0 = w → fM_isNode a M1 = some (pv_b (pv_isn n a), M1) := fun M1 q => cM_isNode q (by rw [← h6.lo (by decide)]; exact h54) hn a
  have no : fX_chain a b M = (fX_refuse (-1002) M).bind (fun q1 => some (q1.1, q1.2)) → (∀ M1 : mM, M1.1 30 0 = w → fM_chain a b M1 = (fM_refuses (-1002) M1).bind (fun q1 => some (q1.1, q1.2))) → ∃ x M1 M2, fX_chain a b M = some (x, M1) ∧ fM_chain a b M1 = some (x, M2) ∧ Rl (T + 80000) M2 ∧ frC M M1 ∧ frM M1 M2 := by
    intro e1 e2
    obtain ⟨M1, M2, a1, a2, a3, a4, a5⟩ := h.no (a := -1002) (Or.inl rfl)
    refine ⟨-1002, M1, M2, by rw [e1, a1]; rfl, ?_, a3, a4, a5⟩
    rw [e2 M1 (by rw [a4.1 30 (by decide)]; exact hw), a2]; rfl
  by_cases c1 : pv_isn n a = true
  · by_cases c2 : (0 : Int32) ≤ b
    · obtain ⟨i, hi, rfl⟩ := pv_isn_of c1 (by omega)
      obtain ⟨M2, b1, b2, -, b4, -, b6, b7⟩ := cM_follow h4 (h6.wf h5) hi
      have hb : b = nI b.toInt.toNat := by
        rw [i_eq, i_nI (by have := b.toInt_lt; omega)]
        rw [i_le, k_0] at c2
        omega
      have hb2 : b.toInt.toNat < 2147483648 := by have := b.toInt_lt; omega
      generalize b.toInt.toNat = s at hb hb2
      subst hb
      have e1 := cN_chainL hv h5 hb2 6 0 0 (nI i) (by omega) (by decide) (by decide) (Nat.zero_le _) (Or.inr ⟨i, hi, rfl⟩)
      have ln := fol_len w 6 0 (nI i)
      refine ⟨(pv_fol v 6 0 (nI i)).1.getD (s - 0) (-1001), M, M2, ?_, ?_, h.get h3 b1 b2 (fun _ _ => rfl), frC.rf M, b1⟩
      · rw [fX_chain_eq, cN_hasNode hv h54 hn, pv_bt c1, Option.bind_some]
        simp only
        rw [if_neg (by decide), if_pos c2, fN_chainNode_eq, show fN_chainNode_L8 (M.2.1 0) (nI s) (nI i) 0 0 M = _ from e1]
        rfl
      · rw [fM_chain_eq, eM M hw, pv_bt c1, Option.bind_some]
        simp only
        rw [if_neg (by decide), if_pos c2, b7, Option.bind_some, b4, cg_fol h5 h6 6 0 _ (Or.inr ⟨i, hi, rfl⟩), Nat.sub_zero]
        by_cases ls : (pv_fol w 6 0 (nI i)).1.length ≤ s
        · rw [if_pos (nI_le ls (by omega))]
          rw [show (pv_fol w 6 0 (nI i)).1.getD s (-1001) = -1001 by simp [List.getD, List.getElem?_eq_none ls]]
        · rw [if_neg (fun z => by rw [i_le, i_nI (by omega), i_nI (by omega)] at z; omega), mi_ix_n (by omega) (by decide), Option.bind_some, Nat.zero_add, b6 s (by omega)]
    · refine no ?_ fun M1 q => ?_
      · rw [fX_chain_eq, cN_hasNode hv h54 hn, pv_bt c1, Option.bind_some]
        simp only
        rw [if_neg (by decide), if_neg c2, fX_chain_L15_eq]
      · rw [fM_chain_eq, eM M1 q, pv_bt c1, Option.bind_some]
        simp only
        rw [if_neg (by decide), if_neg c2, fM_chain_L12_eq]
  · refine no ?_ fun M1 q => ?_
    · rw [fX_chain_eq, cN_hasNode hv h54 hn, pv_bf c1, Option.bind_some]
      simp only
      rw [if_pos trivial, fX_chain_L15_eq]
    · rw [fM_chain_eq, eM M1 q, pv_bf c1, Option.bind_some]
      simp only
      rw [if_pos trivial, fM_chain_L12_eq]
