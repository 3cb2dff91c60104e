/-! PURE: would, told, clear, type, back -/
theorem ok_would (a : Int32) : Okc (fX_would a) (fM_would a) := by
  intro T M hT ⟨d, t, n, m, v, w, sv, sw, rf, tx, ty, h⟩
  obtain ⟨h1, h2, h3, h4, h5, h6, h7, h8⟩ := id h
  obtain ⟨h54, h55, hn, hm, -⟩ := id h5
  have hv : M.1 0 (M.2.1 0) = v := h3.2.2.1
  have hw : M.1 30 0 = w := h4.2.1
  have eM : ∀ M1 : mM, M1.1 30 0 = w → fM_isNode a M1 = some (pv_b (pv_isn n a), M1) := fun M1 q => cM_isNode q (by rw [← h6.lo (by decide)]; exact h54) hn a
  by_cases c1 : pv_isn n a = true
  · obtain ⟨i, hi, rfl⟩ := pv_isn_of c1 (by omega)
    obtain ⟨u, u1, u2, u3⟩ := X_copy h1 h3 h5
    obtain ⟨K, F, e⟩ := cN_lookOnce (u1.wf h5) (M := mi_pv M 0 (M.2.1 1) u) (j := M.2.1 1) (mi_pv_at _ _ _ _)
    have hC : Cst (mi_pv (mi_pv (mi_pv (mi_pv M 0 (M.2.1 1) u) 2 (M.2.1 1) K) 1 (M.2.1 1) F) 0 (M.2.1 1) (pv_lkp n m u (4 * n))) d v sv rf tx t := Cst.tr1 h1 u3 K F (pv_lkp n m u (4 * n))
    have fr1 : frC M (mi_pv (mi_pv (mi_pv (mi_pv M 0 (M.2.1 1) u) 2 (M.2.1 1) K) 1 (M.2.1 1) F) 0 (M.2.1 1) (pv_lkp n m u (4 * n))) := (frC.pv (by decide)).tr frC.tr1
    refine ⟨pv_take m v i, _, _, ?_, ?_, h.get hC (frM.rf _) (h4.fr fr1) (fun _ _ => rfl), fr1, frM.rf _⟩
    · rw [fX_would_eq, cN_hasNode hv h54 hn, pv_bt c1, Option.bind_some]
      simp only
      rw [if_pos (by decide), u2, Option.bind_some]
      rw [show fN_lookOnce ((mi_pv M 0 (M.2.1 1) u).2.1 1) (mi_pv M 0 (M.2.1 1) u) = _ from e, Option.bind_some, mi_ix_n (by omega) (by decide), Option.bind_some, ix_3_8, Option.bind_some]
      show some ((mi_pv (mi_pv (mi_pv (mi_pv M 0 (M.2.1 1) u) 2 (M.2.1 1) K) 1 (M.2.1 1) F) 0 (M.2.1 1) (pv_lkp n m u (4 * n))).1 0 (M.2.1 1) (6 + 8 * i + 3), _) = _
      rw [mi_pv_at, pv_lkp_lt hi (by decide) (by omega), ← cg_lf h5 u1 hi (by decide)]
      rfl
    · rw [fM_would_eq, eM _ (by rw [fr1.1 30 (by decide)]; exact hw), pv_bt c1, Option.bind_some]
      simp only
      rw [if_neg (by decide), cM_takes (v := w) (by rw [fr1.1 30 (by decide)]; exact hw) (h6.wf h5) hi, Option.bind_some, cg_take h5 h6 hi]
  · obtain ⟨M1, M2, a1, a2, a3, a4, a5⟩ := h.no (a := -1002) (Or.inl rfl)
    refine ⟨-1002, M1, M2, ?_, ?_, a3, a4, a5⟩
    · rw [fX_would_eq, cN_hasNode hv h54 hn, pv_bf c1, Option.bind_some]
      simp only
      rw [if_neg (by decide), a1]; rfl
    · rw [fM_would_eq, eM M1 (by rw [a4.1 30 (by decide)]; exact hw), pv_bf c1, Option.bind_some]
      simp only
      rw [if_pos trivial, a2]; rfl
def rf_told (d t : Nat) (rf : Nat → Int32) (i : Nat) : Int32 := if i < 3 then rf i else if i = 3 then nI t else nI d
theorem cX_told {M : mM} {d t : Nat} {v tx : pV} {st : Nat → pV} {rf : Nat → Int32} (h : Cst M d v st rf tx t) {i : Nat} (hi : i < 5) : fX_told (nI i) M = some (rf_told d t rf i, M) := by
  obtain ⟨x1, x2, x3, x4, x5, x6, x7⟩ := h
  rw [fX_told_eq]
  rcases (show i = 0 ∨ i = 1 ∨ i = 2 ∨ i = 3 ∨ i = 4 by omega) with rfl | rfl | rfl | rfl | rfl
  · rw [if_pos (show nI 0 = 0 from rfl), show M.1 3 0 1 = M.1 3 0 (1 + 0) from rfl, x5 0 (by decide)]; rfl
  · rw [if_neg (by decide), if_pos (show nI 1 = 1 from rfl), show M.1 3 0 2 = M.1 3 0 (1 + 1) from rfl, x5 1 (by decide)]; rfl
  · rw [if_neg (by decide), if_neg (by decide), if_pos (show nI 2 = 2 from rfl), show M.1 3 0 3 = M.1 3 0 (1 + 2) from rfl, x5 2 (by decide)]; rfl
  · rw [if_neg (by decide), if_neg (by decide), if_neg (by decide), if_pos (show nI 3 = 3 from rfl), x6]; rfl
  · rw [if_neg (by decide), if_neg (by decide), if_neg (by decide), if_neg (by decide), if_pos (show nI 4 = 4 from rfl), x2]; rfl
theorem cM_told {M : mM} {d t : Nat} {v tx : pV} {st : Nat → pV} {rf : Nat → Int32} (h : Mst M d v st rf tx t) {i : Nat} (hi : i < 5) : fM_toldOf (nI i) M = some (rf_told d t rf i, M) := by
  obtain ⟨x1, x2, x3, x4, x5, x6⟩ := h
  rw [fM_toldOf_eq]
  rcases (show i = 0 ∨ i = 1 ∨ i = 2 ∨ i = 3 ∨ i = 4 by omega) with rfl | rfl | rfl | rfl | rfl
  · rw [if_neg (by decide), mi_ix_n (by decide) (by decide), Option.bind_some, show 0 + 0 = 0 from rfl, x4 0 (by decide)]; rfl
  · rw [if_neg (by decide), mi_ix_n (by decide) (by decide), Option.bind_some, show 0 + 1 = 1 from rfl, x4 1 (by decide)]; rfl
  · rw [if_neg (by decide), mi_ix_n (by decide) (by decide), Option.bind_some, show 0 + 2 = 2 from rfl, x4 2 (by decide)]; rfl
  · rw [if_pos (by decide), if_neg (by decide), x5]; rfl
  · rw [if_pos (by decide), if_pos (by decide), x1]; rfl
theorem ok_told (a : Int32) : Okc (fX_told a) (fM_told a) := by
  intro T M hT ⟨d, t, n, m, v, w, sv, sw, rf, tx, ty, h⟩
  obtain ⟨h1, h2, h3, h4, h5, h6, h7, h8⟩ := id h
  by_cases c2 : pv_in a 0 4 = true
  · obtain ⟨f, -, hf, rfl⟩ := in_nat (l := 0) (h := 4) k_0 k_4 c2
    refine ⟨rf_told d t rf f, M, M, cX_told h3 (by omega), ?_, h.get h3 (frM.rf _) h4 (fun _ _ => rfl), frC.rf M, frM.rf M⟩
    rw [fM_told_eq, cM_in, pv_bt c2, Option.bind_some]
    simp only
    rw [if_neg (by decide), cM_told h4 (by omega)]
    rfl
  · obtain ⟨M1, M2, a1, a2, a3, a4, a5⟩ := h.no (a := -1002) (Or.inl rfl)
    refine ⟨-1002, M1, M2, ?_, ?_, a3, a4, a5⟩
    · have ne : ∀ k : Int32, pv_in k 0 4 = true → ¬ a = k := fun k hk e => c2 (by rw [e]; exact hk)
      rw [fX_told_eq, if_neg (ne 0 (by decide)), if_neg (ne 1 (by decide)), if_neg (ne 2 (by decide)), if_neg (ne 3 (by decide)), if_neg (ne 4 (by decide)), a1]
      rfl
    · rw [fM_told_eq, cM_in, pv_bf c2, Option.bind_some]
      simp only
      rw [if_pos trivial, a2]
      rfl
theorem ok_clear : Okc fX_clear fM_clear := by
  intro T M hT ⟨d, t, n, m, v, w, sv, sw, rf, tx, ty, h⟩
  obtain ⟨h1, h2, h3, h4, h5, h6, h7, h8⟩ := id h
  have f1 : frC M (mi_pv M 6 0 (upd (M.1 6 0) 0 0)) := frC.pv (by decide)
  have f2 : frM (mi_pv M 6 0 (upd (M.1 6 0) 0 0)) (mi_pv (mi_pv M 6 0 (upd (M.1 6 0) 0 0)) 41 0 (upd (M.1 41 0) 3 0)) := frM.pv (by decide) (by decide)
  refine ⟨nI t, _, _, ?_, ?_, ?_, f1, f2⟩
  · rw [fX_clear_eq, h3.2.2.2.2.2.1]; rfl
  · rw [fM_clear_eq, (h4.fr f1).2.2.2.2.1]; rfl
  · obtain ⟨x1, x2, x3, x4, x5, x6, x7⟩ := h3
    obtain ⟨y1, y2, y3, y4, y5, y6⟩ := h4
    refine ⟨d, 0, n, m, v, w, sv, sw, rf, tx, ty, h1, by omega, ?_, ?_, pv_wf_T (by omega) h5, h6, stu_ok (by omega) h7, fun k hk => by omega⟩
    · refine Cst.fr (M := mi_pv M 6 0 (upd (M.1 6 0) 0 0)) ⟨x1, ?_, ?_, fun k hk => ?_, fun i hi => ?_, ?_, ?_⟩ f2
      · rw [mi_pv_net (by decide)]; exact x2
      · rw [mi_pv_net (by decide)]; exact x3
      · rw [mi_pv_net (by decide)]; exact x4 k hk
      · rw [mi_pv_net (by decide)]; exact x5 i hi
      · rw [mi_pv_at, upd_same]; rfl
      · rw [mi_pv_net (by decide)]; exact x7
    · refine ⟨?_, ?_, fun k hk p hp => ?_, fun i hi => ?_, ?_, ?_⟩
      · rw [mi_pv_at, upd_ne (by decide)]; exact y1
      · rw [mi_pv_net (by decide), mi_pv_net (by decide)]; exact y2
      · rw [mi_pv_net (by decide), mi_pv_net (by decide)]; exact y3 k hk p hp
      · rw [mi_pv_net (by decide), mi_pv_net (by decide)]; exact y4 i hi
      · rw [mi_pv_at, upd_same]; rfl
      · rw [mi_pv_net (by decide), mi_pv_net (by decide)]; exact y6
theorem ok_type (a : Int32) : Okc (fX_type a) (fM_type a) := by
  intro T M hT ⟨d, t, n, m, v, w, sv, sw, rf, tx, ty, h⟩
  obtain ⟨h1, h2, h3, h4, h5, h6, h7, h8⟩ := id h
  have ht : M.1 6 0 0 = nI t := h3.2.2.2.2.2.1
  have hs : M.1 41 0 3 = nI t := h4.2.2.2.2.1
  by_cases c1 : pv_in a 0 127 = true
  · by_cases c2 : t < 120
    · have f1 : frC M (mi_pv (mi_pv M 4 0 (upd (M.1 4 0) t a)) 6 0 (upd (M.1 6 0) 0 (nI (t + 1)))) := (frC.pv (by decide)).tr (frC.pv (by decide))
      have f2 : frM (mi_pv (mi_pv M 4 0 (upd (M.1 4 0) t a)) 6 0 (upd (M.1 6 0) 0 (nI (t + 1)))) (mi_pv (mi_pv (mi_pv (mi_pv M 4 0 (upd (M.1 4 0) t a)) 6 0 (upd (M.1 6 0) 0 (nI (t + 1)))) 38 0 (upd (M.1 38 0) t a)) 41 0 (upd (M.1 41 0) 3 (nI (t + 1)))) := (frM.pv (by decide) (by decide)).tr (frM.pv (by decide) (by decide))
      refine ⟨nI (t + 1), _, _, ?_, ?_, ?_, f1, f2⟩
      · rw [fX_type_eq, cX_isWithin, pv_bt c1, Option.bind_some]
        simp only
        rw [if_pos (by decide), fS_append_eq, ht, if_pos (show nI t < 120 from nI_lt (by omega) (by decide)), mi_ix_n c2 (by decide), Option.bind_some, Option.bind_some]
        simp only
        rw [if_pos (by decide), mi_set_pv, mi_set_pv, mi_pv_at, mi_pv_net (by decide), upd_same, Nat.zero_add, ht, nI_1]
      · rw [fM_type_eq, cM_in, pv_bt c1, Option.bind_some]
        simp only
        rw [if_pos (by decide), show (mi_pv (mi_pv M 4 0 (upd (M.1 4 0) t a)) 6 0 (upd (M.1 6 0) 0 (nI (t + 1)))).1 41 0 3 = nI t from hs, if_pos (show ¬ nI t = 120 from fun e => by have := nI_ext (by omega) (by decide) (show nI t = nI 120 from e); omega), mi_ix_n c2 (by decide), Option.bind_some]
        rw [mi_set_pv, mi_set_pv, mi_pv_at, mi_pv_net (by decide), upd_same, Nat.zero_add, show (mi_pv (mi_pv M 4 0 (upd (M.1 4 0) t a)) 6 0 (upd (M.1 6 0) 0 (nI (t + 1)))).1 41 0 3 = nI t from hs, nI_1]
        rfl
      · obtain ⟨x1, x2, x3, x4, x5, x6, x7⟩ := h3
        obtain ⟨y1, y2, y3, y4, y5, y6⟩ := h4
        refine ⟨d, t + 1, n, m, v, w, sv, sw, rf, upd tx t a, upd ty t a, h1, by omega, ?_, ?_, pv_wf_T (by omega) h5, h6, stu_ok (by omega) h7, fun k hk => ?_⟩
        · refine Cst.fr (M := mi_pv (mi_pv M 4 0 (upd (M.1 4 0) t a)) 6 0 (upd (M.1 6 0) 0 (nI (t + 1)))) ⟨x1, ?_, ?_, fun k hk => ?_, fun i hi => ?_, ?_, ?_⟩ f2
          · rw [mi_pv_net (by decide), mi_pv_net (by decide)]; exact x2
          · rw [mi_pv_net (by decide), mi_pv_net (by decide)]; exact x3
          · rw [mi_pv_net (by decide), mi_pv_net (by decide)]; exact x4 k hk
          · rw [mi_pv_net (by decide), mi_pv_net (by decide)]; exact x5 i hi
          · rw [mi_pv_at, upd_same]
          · rw [mi_pv_net (by decide), mi_pv_at, x7]
        · refine ⟨?_, ?_, fun k hk p hp => ?_, fun i hi => ?_, ?_, ?_⟩
          · rw [mi_pv_at, upd_ne (by decide)]; exact y1
          · rw [mi_pv_net (by decide), mi_pv_net (by decide), mi_pv_net (by decide), mi_pv_net (by decide)]; exact y2
          · rw [mi_pv_net (by decide), mi_pv_net (by decide), mi_pv_net (by decide), mi_pv_net (by decide)]; exact y3 k hk p hp
          · rw [mi_pv_net (by decide), mi_pv_net (by decide), mi_pv_net (by decide), mi_pv_net (by decide)]; exact y4 i hi
          · rw [mi_pv_at, upd_same]
          · rw [mi_pv_net (by decide), mi_pv_at, y6]
        · by_cases e : k = t
          · rw [e, upd_same, upd_same]
            refine ⟨rfl, ?_⟩
            unfold pv_in at c1
            rw [decide_eq_true_eq] at c1
            have c1' := c1.1
            rw [i_lt, k_0] at c1'
            omega
          · rw [upd_ne e, upd_ne e]; exact h8 k (by omega)
    · have e120 : t = 120 := by omega
      obtain ⟨M1, M2, a1, a2, a3, a4, a5⟩ := h.no (a := -1004) (Or.inr (Or.inr rfl))
      refine ⟨-1004, M1, M2, ?_, ?_, a3, a4, a5⟩
      · rw [fX_type_eq, cX_isWithin, pv_bt c1, Option.bind_some]
        simp only
        rw [if_pos (by decide), fS_append_eq, ht, e120, if_neg (by decide), Option.bind_some]
        simp only
        rw [if_neg (by decide), a1]
        rfl
      · rw [fM_type_eq, cM_in, pv_bt c1, Option.bind_some]
        simp only
        rw [if_pos (by decide), a4.1 41 (by decide), hs, e120, if_neg (by decide), a2]
        rfl
  · obtain ⟨M1, M2, a1, a2, a3, a4, a5⟩ := h.no (a := -1002) (Or.inl rfl)
    refine ⟨-1002, M1, M2, ?_, ?_, a3, a4, a5⟩
    · rw [fX_type_eq, cX_isWithin, pv_bf c1, Option.bind_some]
      simp only
      rw [if_neg (by decide), a1]; rfl
    · rw [fM_type_eq, cM_in, pv_bf c1, Option.bind_some]
      simp only
      rw [if_neg (by decide), a2]; rfl
