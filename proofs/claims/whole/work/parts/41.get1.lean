/-! PURE: the calls that only tell: of, about, offers, would, told, clear, type, back -/
theorem k_2 : (2 : Int32).toInt = 2 := by decide
theorem k_4 : (4 : Int32).toInt = 4 := by decide
theorem k_7 : (7 : Int32).toInt = 7 := by decide
theorem k_9 : (9 : Int32).toInt = 9 := by decide
theorem ok_of (a b : Int32) : Okc (fX_of a b) (fM_of a b) := by
  intro T M hT ⟨d, t, n, m, v, w, sv, sw, rf, tx, ty, h⟩
  obtain ⟨h1, h2, h3, h4, h5, h6, h7, h8⟩ := id h
  obtain ⟨h54, h55, hn, hm, -⟩ := id h5
  have hv : M.1 0 (M.2.1 0) = v := h3.2.2.1
  have hw : M.1 30 0 = w := h4.2.1
  have no : fX_of a b M = (fX_refuse (-1002) M).bind (fun q1 => some (q1.1, q1.2)) → (∀ M1 : mM, M1.1 30 0 = w → fM_of a b M1 = (fM_refuses (-1002) M1).bind (fun q1 => some (q1.1, q1.2))) → ∃ x M1 M2, fX_of a b M = some (x, M1) ∧ fM_of a b M1 = some (x, M2) ∧ Rl (T + 80000) M2 ∧ frC M M1 ∧ frM M1 M2 := by
    intro e1 e2
    obtain ⟨M1, M2, a1, a2, a3, a4, a5⟩ := h.no (a := -1002) (Or.inl rfl)
    refine ⟨-1002, M1, M2, by rw [e1, a1]; rfl, ?_, a3, a4, a5⟩
    rw [e2 M1 (by rw [a4.1 30 (by decide)]; exact hw), a2]; rfl
  have eM : ∀ M1 : mM, M1.1 30 0 = w → fM_isNode a M1 = some (pv_b (pv_isn n a), M1) := fun M1 q => cM_isNode q (by rw [← h6.lo (by decide)]; exact h54) hn a
  by_cases c1 : pv_isn n a = true
  · by_cases c2 : pv_in b 0 7 = true
    · obtain ⟨i, hi, rfl⟩ := pv_isn_of c1 (by omega)
      obtain ⟨f, -, hf, rfl⟩ := in_nat (l := 0) (h := 7) k_0 k_7 c2
      refine ⟨v (6 + 8 * i + f), M, M, ?_, ?_, h.get h3 (frM.rf M) h4 (fun _ _ => rfl), frC.rf M, frM.rf M⟩
      · rw [fX_of_eq, cN_hasNode hv h54 hn, pv_bt c1, Option.bind_some]
        simp only
        rw [if_neg (by decide), cX_isWithin, pv_bt c2, Option.bind_some]
        simp only
        rw [if_pos (by decide), mi_ix_n (by omega) (by decide), Option.bind_some, mi_ix_n (by omega) (by decide), Option.bind_some, hv]
      · rw [fM_of_eq, eM M hw, pv_bt c1, Option.bind_some]
        simp only
        rw [if_neg (by decide), cM_in, pv_bt c2, Option.bind_some]
        simp only
        rw [if_neg (by decide), cM_nodeAt hw (by omega) (by omega), Option.bind_some, h6.nd hi (by omega)]
    · refine no ?_ fun M1 q => ?_
      · rw [fX_of_eq, cN_hasNode hv h54 hn, pv_bt c1, Option.bind_some]
        simp only
        rw [if_neg (by decide), cX_isWithin, pv_bf c2, Option.bind_some]
        simp only
        rw [if_neg (by decide), fX_of_L21_eq]
      · rw [fM_of_eq, eM M1 q, pv_bt c1, Option.bind_some]
        simp only
        rw [if_neg (by decide), cM_in, pv_bf c2, Option.bind_some]
        simp only
        rw [if_pos trivial, fM_of_L27_eq]
  · refine no ?_ fun M1 q => ?_
    · rw [fX_of_eq, cN_hasNode hv h54 hn, pv_bf c1, Option.bind_some]
      simp only
      rw [if_pos trivial, fX_of_L21_eq]
    · rw [fM_of_eq, eM M1 q, pv_bf c1, Option.bind_some]
      simp only
      rw [if_pos trivial, fM_of_L27_eq]
theorem ok_about (a b : Int32) : Okc (fX_about a b) (fM_about a b) := by
  intro T M hT ⟨d, t, n, m, v, w, sv, sw, rf, tx, ty, h⟩
  obtain ⟨h1, h2, h3, h4, h5, h6, h7, h8⟩ := id h
  obtain ⟨h54, h55, hn, hm, -⟩ := id h5
  have hv : M.1 0 (M.2.1 0) = v := h3.2.2.1
  have hw : M.1 30 0 = w := h4.2.1
  have no : fX_about a b M = (fX_refuse (-1002) M).bind (fun q1 => some (q1.1, q1.2)) → (∀ M1 : mM, M1.1 30 0 = w → fM_about a b M1 = (fM_refuses (-1002) M1).bind (fun q1 => some (q1.1, q1.2))) → ∃ x M1 M2, fX_about a b M = some (x, M1) ∧ fM_about a b M1 = some (x, M2) ∧ Rl (T + 80000) M2 ∧ frC M M1 ∧ frM M1 M2 := by
    intro e1 e2
    obtain ⟨M1, M2, a1, a2, a3, a4, a5⟩ := h.no (a := -1002) (Or.inl rfl)
    refine ⟨-1002, M1, M2, by rw [e1, a1]; rfl, ?_, a3, a4, a5⟩
    rw [e2 M1 (by rw [a4.1 30 (by decide)]; exact hw), a2]; rfl
  have eM : ∀ M1 : mM, M1.1 30 0 = w → fM_isLink a M1 = some (pv_b (pv_isn m a), M1) := fun M1 q => cM_isLink q (by rw [← h6.lo (by decide)]; exact h55) hm a
  by_cases c1 : pv_isn m a = true
  · by_cases c2 : pv_in b 0 9 = true
    · obtain ⟨i, hi, rfl⟩ := pv_isn_of c1 (by omega)
      obtain ⟨f, -, hf, rfl⟩ := in_nat (l := 0) (h := 9) k_0 k_9 c2
      refine ⟨v (54 + 10 * i + f), M, M, ?_, ?_, h.get h3 (frM.rf M) h4 (fun _ _ => rfl), frC.rf M, frM.rf M⟩
      · rw [fX_about_eq, cN_hasLink hv h55 hm, pv_bt c1, Option.bind_some]
        simp only
        rw [if_neg (by decide), cX_isWithin, pv_bt c2, Option.bind_some]
        simp only
        rw [if_pos (by decide), mi_ix_n (by omega) (by decide), Option.bind_some, mi_ix_n (by omega) (by decide), Option.bind_some, hv]
      · rw [fM_about_eq, eM M hw, pv_bt c1, Option.bind_some]
        simp only
        rw [if_neg (by decide), cM_in, pv_bt c2, Option.bind_some]
        simp only
        rw [if_neg (by decide), cM_linkAt hw (by omega) (by omega), Option.bind_some, h6.lk hi (by omega)]
    · refine no ?_ fun M1 q => ?_
      · rw [fX_about_eq, cN_hasLink hv h55 hm, pv_bt c1, Option.bind_some]
        simp only
        rw [if_neg (by decide), cX_isWithin, pv_bf c2, Option.bind_some]
        simp only
        rw [if_neg (by decide), fX_about_L21_eq]
      · rw [fM_about_eq, eM M1 q, pv_bt c1, Option.bind_some]
        simp only
        rw [if_neg (by decide), cM_in, pv_bf c2, Option.bind_some]
        simp only
        rw [if_pos trivial, fM_about_L27_eq]
  · refine no ?_ fun M1 q => ?_
    · rw [fX_about_eq, cN_hasLink hv h55 hm, pv_bf c1, Option.bind_some]
      simp only
      rw [if_pos trivial, fX_about_L21_eq]
    · rw [fM_about_eq, eM M1 q, pv_bf c1, Option.bind_some]
      simp only
      rw [if_pos trivial, fM_about_L27_eq]
theorem cN_offered {j n m T : Nat} {M : mM} {v : pV} (hv : M.1 0 j = v) (wf : pv_wf n m T v) {l f : Nat} (hl : l < m) (hf : f < 3) : fN_offered j (nI l) (nI f) M = some (if pv_off v l = true then pv_of v l f else -1001, M) := by
  have hn := wf.2.2.1
  have hm := wf.2.2.2.1
  obtain ⟨f1, f2⟩ := wf.fr hl
  rw [fN_offered_eq, cN_isOffering hv wf hl, Option.bind_some]
  by_cases o : pv_off v l = true
  · simp only [if_pos o]
    rw [if_pos (by decide), mi_ix_n (by omega) (by decide), Option.bind_some, ix_0_10, Option.bind_some, hv, f2, mi_ix_n (by omega) (by decide), Option.bind_some, mi_ix_n (by omega) (by decide), Option.bind_some]
    unfold pv_of
    by_cases e : f = 1
    · rw [if_neg (fun q => q (by rw [e]; rfl)), if_pos e, e]
    · rw [if_pos (show ¬ nI f = 1 from fun q => e (nI_ext (by omega) (by decide) (show nI f = nI 1 from q))), if_neg e]
  · simp only [if_neg o]
    rw [if_neg (by decide)]
theorem cM_offersOf {n m T : Nat} {M : mM} {v : pV} (hv : M.1 30 0 = v) (wf : pv_wf n m T v) {l f : Nat} (hl : l < m) (hf : f < 3) : fM_offersOf (nI l) (nI f) M = some (if pv_off v l = true then pv_of v l f else -1001, M) := by
  rw [fM_offersOf_eq, cM_isOffered hv wf hl, Option.bind_some]
  by_cases o : pv_off v l = true
  · simp only [if_pos o]
    rw [if_neg (by decide), cM_offerOf hv wf hl hf]
    rfl
  · simp only [if_neg o]
    rw [if_pos trivial]
theorem ok_offers (a b : Int32) : Okc (fX_offers a b) (fM_offers a b) := by
  intro T M hT ⟨d, t, n, m, v, w, sv, sw, rf, tx, ty, h⟩
  obtain ⟨h1, h2, h3, h4, h5, h6, h7, h8⟩ := id h
  obtain ⟨h54, h55, hn, hm, -⟩ := id h5
  have hv : M.1 0 (M.2.1 0) = v := h3.2.2.1
  have hw : M.1 30 0 = w := h4.2.1
  have no : fX_offers a b M = (fX_refuse (-1002) M).bind (fun q1 => some (q1.1, q1.2)) → (∀ M1 : mM, M1.1 30 0 = w → fM_offers a b M1 = (fM_refuses (-1002) M1).bind (fun q1 => some (q1.1, q1.2))) → ∃ x M1 M2, fX_offers a b M = some (x, M1) ∧ fM_offers a b M1 = some (x, M2) ∧ Rl (T + 80000) M2 ∧ frC M M1 ∧ frM M1 M2 := by
    intro e1 e2
    obtain ⟨M1, M2, a1, a2, a3, a4, a5⟩ := h.no (a := -1002) (Or.inl rfl)
    refine ⟨-1002, M1, M2, by rw [e1, a1]; rfl, ?_, a3, a4, a5⟩
    rw [e2 M1 (by rw [a4.1 30 (by decide)]; exact hw), a2]; rfl
  have eM : ∀ M1 : mM, M1.1 30 0 = w → fM_isLink a M1 = some (pv_b (pv_isn m a), M1) := fun M1 q => cM_isLink q (by rw [← h6.lo (by decide)]; exact h55) hm a
  by_cases c1 : pv_isn m a = true
  · by_cases c2 : pv_in b 0 2 = true
    · obtain ⟨i, hi, rfl⟩ := pv_isn_of c1 (by omega)
      obtain ⟨f, -, hf, rfl⟩ := in_nat (l := 0) (h := 2) k_0 k_2 c2
      refine ⟨if pv_off v i = true then pv_of v i f else -1001, M, M, ?_, ?_, h.get h3 (frM.rf M) h4 (fun _ _ => rfl), frC.rf M, frM.rf M⟩
      · rw [fX_offers_eq, cN_hasLink hv h55 hm, pv_bt c1, Option.bind_some]
        simp only
        rw [if_neg (by decide), cX_isWithin, pv_bt c2, Option.bind_some]
        simp only
        rw [if_pos (by decide), cN_offered hv h5 hi (by omega)]
        rfl
      · rw [fM_offers_eq, eM M hw, pv_bt c1, Option.bind_some]
        simp only
        rw [if_neg (by decide), cM_in, pv_bt c2, Option.bind_some]
        simp only
        rw [if_neg (by decide), cM_offersOf hw (h6.wf h5) hi (by omega), Option.bind_some, cg_off h5 h6 hi, cg_of h5 h6 hi (by omega)]
    · refine no ?_ fun M1 q => ?_
      · rw [fX_offers_eq, cN_hasLink hv h55 hm, pv_bt c1, Option.bind_some]
        simp only
        rw [if_neg (by decide), cX_isWithin, pv_bf c2, Option.bind_some]
        simp only
        rw [if_neg (by decide), fX_offers_L20_eq]
      · rw [fM_offers_eq, eM M1 q, pv_bt c1, Option.bind_some]
        simp only
        rw [if_neg (by decide), cM_in, pv_bf c2, Option.bind_some]
        simp only
        rw [if_pos trivial, fM_offers_L26_eq]
  · refine no ?_ fun M1 q => ?_
    · rw [fX_offers_eq, cN_hasLink hv h55 hm, pv_bf c1, Option.bind_some]
      simp only
      rw [if_pos trivial, fX_offers_L20_eq]
    · rw [fM_offers_eq, eM M1 q, pv_bf c1, Option.bind_some]
      simp only
      rw [if_pos trivial, fM_offers_L26_eq]
