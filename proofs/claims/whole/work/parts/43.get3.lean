/-! PURE: back, settles -/
def st_sw (d : Nat) : Nat → Nat := fun k => if k = 0 then 2 + d else if k = 2 + d then 0 else k
theorem st_sw_ok : ∀ d, d < 5 → (∀ a, a < 7 → st_sw d a < 7) ∧ ∀ a, a < 7 → ∀ b, b < 7 → st_sw d a = st_sw d b → a = b := by
  intro d hd
  unfold st_sw
  refine ⟨fun a ha => ?_, fun a ha b hb e => ?_⟩
  · split
    · omega
    · split <;> omega
  · split at e <;> split at e <;> (try split at e) <;> (try split at e) <;> omega
theorem cX_back {M : mM} {d : Nat} (hd : d < 5) (h : M.1 3 0 0 = nI (d + 1)) : fX_back M = some (nI d, mi_ms (mi_pv M 3 0 (upd (M.1 3 0) 0 (nI d))) (fun k => M.2.1 (st_sw d k))) := by
  have e1 : (mi_set M 3 0 0 (M.1 3 0 0 - 1)).1 3 0 0 = nI d := by rw [mi_set_pv, mi_pv_at, upd_same, h, nI_pred]
  rw [fX_back_eq, if_pos (show ¬ M.1 3 0 0 = 0 from fun e => by have := nI_ext (by omega) (by decide) (show nI (d + 1) = nI 0 from h.symm.trans e); omega), e1, mi_ix_n hd (by decide), Option.bind_some]
  rw [show (mi_setS (mi_set M 3 0 0 (M.1 3 0 0 - 1)) 0 ((mi_set M 3 0 0 (M.1 3 0 0 - 1)).2.1 (2 + d))).1 3 0 0 = nI d from e1, mi_ix_n hd (by decide), Option.bind_some]
  rw [show (mi_setS (mi_setS (mi_set M 3 0 0 (M.1 3 0 0 - 1)) 0 ((mi_set M 3 0 0 (M.1 3 0 0 - 1)).2.1 (2 + d))) (2 + d) ((mi_set M 3 0 0 (M.1 3 0 0 - 1)).2.1 0)).1 3 0 0 = nI d from e1]
  have hS : va_up (va_up M.2.1 0 (M.2.1 (2 + d))) (2 + d) (M.2.1 0) = fun k => M.2.1 (st_sw d k) := by
    funext k
    unfold va_up st_sw
    by_cases kd : k = 2 + d
    · rw [if_pos kd, if_neg (by omega), if_pos kd]
    · rw [if_neg kd]
      by_cases k0 : k = 0
      · rw [if_pos k0, if_pos k0]
      · rw [if_neg k0, if_neg k0, if_neg kd]
  have e2 : nI d = M.1 3 0 0 - 1 := by rw [h, nI_pred]
  refine congrArg some (congrArg (fun z => (nI d, z)) ?_)
  rw [e2, ← hS]
  rfl
theorem ok_back : Okc fX_back fM_back := by
  intro T M hT ⟨d, t, n, m, v, w, sv, sw, rf, tx, ty, h⟩
  obtain ⟨h1, h2, h3, h4, h5, h6, h7, h8⟩ := id h
  obtain ⟨x1, x2, x3, x4, x5, x6, x7⟩ := id h3
  obtain ⟨y1, y2, y3, y4, y5, y6⟩ := id h4
  rcases d with _ | d
  · obtain ⟨M1, M2, a1, a2, a3, a4, a5⟩ := h.no (a := -1003) (Or.inr (Or.inl rfl))
    refine ⟨-1003, M1, M2, ?_, ?_, a3, a4, a5⟩
    · rw [fX_back_eq, x2, if_neg (by decide), a1]; rfl
    · rw [fM_back_eq, a4.1 41 (by decide), y1, if_neg (by decide), a2]; rfl
  · have f1 : frC M (mi_ms (mi_pv M 3 0 (upd (M.1 3 0) 0 (nI d))) (fun k => M.2.1 (st_sw d k))) := (frC.pv (by decide)).tr frC.ms
    obtain ⟨u, u1, u2⟩ := cM_back (M := mi_ms (mi_pv M 3 0 (upd (M.1 3 0) 0 (nI d))) (fun k => M.2.1 (st_sw d k))) (d := d) (by omega) (by rw [f1.1 41 (by decide)]; exact y1)
    have f2 : frM (mi_ms (mi_pv M 3 0 (upd (M.1 3 0) 0 (nI d))) (fun k => M.2.1 (st_sw d k))) _ := (frM.pv (t := 41) (j := 0) (v := upd ((mi_ms (mi_pv M 3 0 (upd (M.1 3 0) 0 (nI d))) (fun k => M.2.1 (st_sw d k))).1 41 0) 0 (nI d)) (by decide) (by decide)).tr (frM.pv (t := 30) (j := 0) (v := u) (by decide) (by decide))
    obtain ⟨n', m', w1, w2⟩ := h7 d (by omega)
    have hn' := w1.2.2.1
    have hm' := w1.2.2.2.1
    refine ⟨nI d, _, _, cX_back (by omega) x2, u2, ?_, f1, f2⟩
    refine ⟨d, t, n', m', sv d, u, sv, sw, rf, tx, ty, by omega, h2, ?_, ?_, pv_wf_T (by omega) w1, ?_, fun k hk => stu_ok (by omega) h7 k (by omega), h8⟩
    · refine Cst.fr (M := mi_ms (mi_pv M 3 0 (upd (M.1 3 0) 0 (nI d))) (fun k => M.2.1 (st_sw d k))) ⟨inj7_comp (S := M.2.1) (π := st_sw d) x1 (st_sw_ok d (by omega)).1 (st_sw_ok d (by omega)).2, ?_, ?_, fun k hk => ?_, fun i hi => ?_, ?_, ?_⟩ f2
      · show (mi_pv M 3 0 (upd (M.1 3 0) 0 (nI d))).1 3 0 0 = _
        rw [mi_pv_at, upd_same]
      · show (mi_pv M 3 0 (upd (M.1 3 0) 0 (nI d))).1 0 (M.2.1 (2 + d)) = _
        rw [mi_pv_net (by decide)]; exact x4 d (by omega)
      · show (mi_pv M 3 0 (upd (M.1 3 0) 0 (nI d))).1 0 (M.2.1 (st_sw d (2 + k))) = _
        rw [mi_pv_net (by decide), show st_sw d (2 + k) = 2 + k by unfold st_sw; rw [if_neg (by omega), if_neg (by omega)]]; exact x4 k (by omega)
      · show (mi_pv M 3 0 (upd (M.1 3 0) 0 (nI d))).1 3 0 (1 + i) = _
        rw [mi_pv_at, upd_ne (by omega)]; exact x5 i hi
      · exact x6
      · exact x7
    · refine ⟨?_, mi_pv_at _ _ _ _, fun k hk p hp => ?_, fun i hi => ?_, ?_, ?_⟩
      · rw [mi_pv_net (by decide), mi_pv_at, upd_same]
      · exact y3 k (by omega) p hp
      · exact y4 i hi
      · rw [mi_pv_net (by decide), mi_pv_at, upd_ne (by decide)]; exact y5
      · exact y6
    · exact w2.tr (fun p hp => ((u1 p (by omega)).trans (y3 d (by omega) p (by omega))).symm)
def pv_stl (n m : Nat) : Nat → Nat → pV → Int32
  | 0, _, _ => -1001
  | c + 1, i, v => if pv_chp m v (4 * n) = true then pv_stl n m c (i + 1) (pv_lk n m v) else nI i
theorem pv_stl_S (n m c i : Nat) (v : pV) : pv_stl n m (c + 1) i v = if pv_chp m v (4 * n) = true then pv_stl n m c (i + 1) (pv_lk n m v) else nI i := rfl
theorem cg_stl {n m T : Nat} : ∀ (c i : Nat) (v w : pV), pv_wf n m T v → pv_eq n m v w → pv_stl n m c i v = pv_stl n m c i w := by
  intro c
  induction c with
  | zero => intro i v w _ _; rfl
  | succ c ih =>
    intro i v w wf he
    rw [pv_stl_S, pv_stl_S, cg_chp wf he, ih (i + 1) _ _ (pv_lk_wf wf) (cg_lk wf he)]
theorem cX_stlL {n m T : Nat} : ∀ (c i : Nat) (v : pV) (M : mM), i + c = 31 → M.1 0 (M.2.1 1) = v → pv_wf n m T v → ∃ K F u, fX_settles_L13 (nI i) M = some (pv_stl n m c i v, mi_pv (mi_pv (mi_pv M 2 (M.2.1 1) K) 1 (M.2.1 1) F) 0 (M.2.1 1) u) := by
  intro c
  induction c with
  | zero =>
    intro i v M hi hv wf
    refine ⟨M.1 2 (M.2.1 1), M.1 1 (M.2.1 1), M.1 0 (M.2.1 1), ?_⟩
    rw [fX_settles_L13_eq, show i = 31 by omega, if_pos (by decide), mi_pv_self, mi_pv_self, mi_pv_self]
    rfl
  | succ c ih =>
    intro i v M hi hv wf
    obtain ⟨K, F, e⟩ := cN_lookOnce wf (M := M) (j := M.2.1 1) hv
    rw [fX_settles_L13_eq, if_neg (show ¬ (30 : Int32) < nI i from fun q => by rw [i_lt, i_nI (by omega), show (30 : Int32).toInt = 30 by decide] at q; omega), e, Option.bind_some, pv_stl_S]
    simp only
    by_cases ch : pv_chp m v (4 * n) = true
    · rw [pv_bt ch, if_pos (by decide), if_pos ch, nI_1]
      obtain ⟨K', F', u', e'⟩ := ih (i + 1) (pv_lk n m v) (mi_pv (mi_pv (mi_pv M 2 (M.2.1 1) K) 1 (M.2.1 1) F) 0 (M.2.1 1) (pv_lkp n m v (4 * n))) (by omega) (mi_pv_at _ _ _ _) (pv_lk_wf wf)
      refine ⟨K', F', u', e'.trans ?_⟩
      rw [show (mi_pv (mi_pv (mi_pv M 2 (M.2.1 1) K) 1 (M.2.1 1) F) 0 (M.2.1 1) (pv_lkp n m v (4 * n))).2.1 1 = M.2.1 1 from rfl, mi_pv3]
    · rw [pv_bf ch, if_neg (by decide), if_neg ch]
      exact ⟨K, F, _, rfl⟩
theorem cM_stl44 {M : mM} {x : Int32} : ∃ A B u, (∀ p, p < 154 → u p = M.1 37 0 p) ∧ fM_settled_L44 x M = some (x, mi_pv (mi_pv (mi_pv M 34 0 A) 35 0 B) 30 0 u) := by
  obtain ⟨u, u1, u2⟩ := cM_takeB (M := M)
  exact ⟨M.1 34 0, M.1 35 0, u, u1, by rw [fM_settled_L44_eq, u2, pv3_self]; rfl⟩
theorem cM_stlL {n m T : Nat} : ∀ (c i : Nat) (v : pV) (M : mM), i + c = 31 → M.1 30 0 = v → pv_wf n m T v → ∃ A B u, (∀ p, p < 154 → u p = M.1 37 0 p) ∧ fM_settled_L10 (-1001) (nI i) M = some (pv_stl n m c i v, mi_pv (mi_pv (mi_pv M 34 0 A) 35 0 B) 30 0 u) := by
  intro c
  induction c with
  | zero =>
    intro i v M hi hv wf
    rw [fM_settled_L10_eq, show i = 31 by omega, if_pos (by decide)]
    exact cM_stl44
  | succ c ih =>
    intro i v M hi hv wf
    obtain ⟨A, B, e⟩ := cM_look wf (M := M) hv
    rw [fM_settled_L10_eq, if_neg (show ¬ (30 : Int32) < nI i from fun q => by rw [i_lt, i_nI (by omega), show (30 : Int32).toInt = 30 by decide] at q; omega), if_neg (by decide), e, Option.bind_some, pv_stl_S]
    simp only
    have h37 : ∀ A' B' u' : pV, (mi_pv (mi_pv (mi_pv M 34 0 A') 35 0 B') 30 0 u').1 37 0 = M.1 37 0 := fun A' B' u' => by rw [mi_pv_net (by decide), mi_pv_net (by decide), mi_pv_net (by decide)]
    by_cases ch : pv_chp m v (4 * n) = true
    · rw [pv_bt ch, if_neg (by decide), if_pos ch, nI_1]
      obtain ⟨A', B', u', e1, e2⟩ := ih (i + 1) (pv_lk n m v) (mi_pv (mi_pv (mi_pv M 34 0 A) 35 0 B) 30 0 (pv_lkp n m v (4 * n))) (by omega) (mi_pv_at _ _ _ _) (pv_lk_wf wf)
      refine ⟨A', B', u', fun p hp => (e1 p hp).trans (by rw [h37]), e2.trans ?_⟩
      rw [mi_pv3]
    · rw [pv_bf ch, if_pos rfl, if_neg ch, fM_settled_L10_eq]
      obtain ⟨A', B', u', e1, e2⟩ := cM_stl44 (M := mi_pv (mi_pv (mi_pv M 34 0 A) 35 0 B) 30 0 (pv_lkp n m v (4 * n))) (x := nI i)
      refine ⟨A', B', u', fun p hp => (e1 p hp).trans (by rw [h37]), ?_⟩
      rw [if_pos (show ¬ nI i = -1001 from nI_nNONE i (by omega)), e2, mi_pv3]
      split <;> rfl
theorem cX_settles {n m T d t : Nat} {M : mM} {v tx : pV} {st : Nat → pV} {rf : Nat → Int32} (hd : d ≤ 5) (h : Cst M d v st rf tx t) (wf : pv_wf n m T v) : ∃ M', frC M M' ∧ Cst M' d v st rf tx t ∧ M'.2.1 = M.2.1 ∧ fX_settles M = some (pv_stl n m 31 0 v, M') := by
  obtain ⟨u, u1, u2, u3⟩ := X_copy hd h wf
  obtain ⟨K, F, u', e⟩ := cX_stlL 31 0 u (mi_pv M 0 (M.2.1 1) u) (by omega) (mi_pv_at _ _ _ _) (u1.wf wf)
  refine ⟨_, (frC.pv (by decide)).tr frC.tr1, Cst.tr1 hd u3 K F u', rfl, ?_⟩
  rw [fX_settles_eq, u2, Option.bind_some, cg_stl 31 0 _ _ wf u1]
  exact e
theorem cM_settled {n m T d t : Nat} {M : mM} {w ty : pV} {st : Nat → pV} {rf : Nat → Int32} (h : Mst M d w st rf ty t) (wf : pv_wf n m T w) : ∃ M' w', frM M M' ∧ (∀ p, p < 154 → w' p = w p) ∧ Mst M' d w' st rf ty t ∧ M'.2.2 = M.2.2 ∧ fM_settled M = some (pv_stl n m 31 0 w, M') := by
  obtain ⟨H, hH, e1⟩ := cM_lay (M := M)
  have hv : M.1 30 0 = w := h.2.1
  obtain ⟨A, B, u, a1, a2⟩ := cM_stlL 31 0 w (mi_pv M 37 0 H) (by omega) (by rw [mi_pv_net (by decide)]; exact hv) wf
  refine ⟨mi_pv (mi_pv (mi_pv (mi_pv M 37 0 H) 34 0 A) 35 0 B) 30 0 u, u, (frM.pv (by decide) (by decide)).tr (((frM.pv (by decide) (by decide)).tr (frM.pv (by decide) (by decide))).tr (frM.pv (by decide) (by decide))), fun p hp => by rw [a1 p hp, mi_pv_at, hH p hp, hv], ?_, rfl, by rw [fM_settled_eq, e1, Option.bind_some]; exact a2⟩
  obtain ⟨x1, x2, x3, x4, x5, x6⟩ := h
  have other : ∀ t', t' ≠ 30 → t' ≠ 37 → t' ≠ 34 → t' ≠ 35 → (mi_pv (mi_pv (mi_pv (mi_pv M 37 0 H) 34 0 A) 35 0 B) 30 0 u).1 t' = M.1 t' := fun t' a b c d => by rw [mi_pv_t a, mi_pv_t d, mi_pv_t c, mi_pv_t b]
  refine ⟨?_, mi_pv_at _ _ _ _, fun k hk p hp => ?_, fun i hi => ?_, ?_, ?_⟩
  · rw [other 41 (by decide) (by decide) (by decide) (by decide)]; exact x1
  · rw [other 32 (by decide) (by decide) (by decide) (by decide)]; exact x3 k hk p hp
  · rw [other 33 (by decide) (by decide) (by decide) (by decide)]; exact x4 i hi
  · rw [other 41 (by decide) (by decide) (by decide) (by decide)]; exact x5
  · rw [other 38 (by decide) (by decide) (by decide) (by decide)]; exact x6
theorem ok_settles : Okc fX_settles fM_settles := by
  intro T M hT ⟨d, t, n, m, v, w, sv, sw, rf, tx, ty, h⟩
  obtain ⟨h1, h2, h3, h4, h5, h6, h7, h8⟩ := id h
  obtain ⟨M1, a1, a2, -, a3⟩ := cX_settles h1 h3 h5
  obtain ⟨M2, w', b1, b2, b3, -, b4⟩ := cM_settled (h4.fr a1) (h6.wf h5)
  refine ⟨_, M1, M2, a3, ?_, h.get a2 b1 b3 b2, a1, b1⟩
  rw [fM_settles_eq, b4, cg_stl 31 0 _ _ h5 h6]
  rfl
