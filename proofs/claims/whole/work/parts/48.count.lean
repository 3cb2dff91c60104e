/-! PURE: count agrees -/
def pv_sum (m : Nat) (v : pV) (f : Nat) : Int32 := mi_lp (fun l x => x + v (54 + 10 * l + f)) m 0 0
def pv_rings (n : Nat) (v : pV) : Int32 := mi_lp (fun i x => x + pv_b (pv_fol v 6 0 (nI i)).2) n 0 0
theorem cN_sumL {m j : Nat} {v : pV} {M : mM} (hv : M.1 0 j = v) (h5 : v 5 = nI m) (hm : m ≤ 10) {f : Nat} (hf : f < 10) : ∀ (c l : Nat) (x : Int32), l + c = m → fN_sumOfLinks_L4 j (nI f) x (nI l) M = some (mi_lp (fun l x => x + v (54 + 10 * l + f)) c l x, M) := by
  intro c
  induction c with
  | zero =>
    intro l x hl
    rw [fN_sumOfLinks_L4_eq, hv, h5, if_pos (nI_le (by omega) (by omega))]
    rfl
  | succ c ih =>
    intro l x hl
    rw [fN_sumOfLinks_L4_eq, hv, h5, if_neg (show ¬ nI m ≤ nI l from fun z => by rw [i_le, i_nI (by omega), i_nI (by omega)] at z; omega), mi_ix_n (by omega) (by decide), Option.bind_some, mi_ix_n hf (by decide), Option.bind_some, nI_1, mi_lp_S]
    exact ih (l + 1) _ (by omega)
theorem cM_sumL {m : Nat} {v : pV} {M : mM} (hv : M.1 30 0 = v) (h5 : v 5 = nI m) (hm : m ≤ 10) {f : Nat} (hf : f < 10) : ∀ (c l : Nat) (x : Int32), l + c = m → fM_sumOf_L4 (nI f) x (nI l) M = some (mi_lp (fun l x => x + v (54 + 10 * l + f)) c l x, M) := by
  intro c
  induction c with
  | zero =>
    intro l x hl
    rw [fM_sumOf_L4_eq, ix_5_154, Option.bind_some, hv, Nat.zero_add, h5, if_pos (nI_le (by omega) (by omega))]
    rfl
  | succ c ih =>
    intro l x hl
    rw [fM_sumOf_L4_eq, ix_5_154, Option.bind_some, hv, Nat.zero_add, h5, if_neg (show ¬ nI m ≤ nI l from fun z => by rw [i_le, i_nI (by omega), i_nI (by omega)] at z; omega), cM_linkAt hv (by omega) hf, Option.bind_some, nI_1, mi_lp_S]
    exact ih (l + 1) _ (by omega)
theorem cN_ringsL {n m T j : Nat} {v : pV} {M : mM} (hv : M.1 0 j = v) (wf : pv_wf n m T v) : ∀ (c i : Nat) (x : Int32), i + c = n → fN_ringCount_L4 j x (nI i) M = some (mi_lp (fun i x => x + pv_b (pv_fol v 6 0 (nI i)).2) c i x, M) := by
  obtain ⟨h4, h5, hn, hm, -⟩ := id wf
  intro c
  induction c with
  | zero =>
    intro i x hi
    rw [fN_ringCount_L4_eq, hv, h4, if_pos (nI_le (by omega) (by omega))]
    rfl
  | succ c ih =>
    intro i x hi
    rw [fN_ringCount_L4_eq, hv, h4, if_neg (show ¬ nI n ≤ nI i from fun z => by rw [i_le, i_nI (by omega), i_nI (by omega)] at z; omega), cN_isRing hv wf (by omega), Option.bind_some, nI_1, mi_lp_S]
    simp only
    rw [← ih (i + 1) (x + pv_b (pv_fol v 6 0 (nI i)).2) (by omega)]
    cases (pv_fol v 6 0 (nI i)).2
    · rw [if_pos (by decide), show x + pv_b false = x from Int32.add_zero x]
    · rw [if_neg (by decide)]; rfl
theorem cM_ringsL {n m T d t : Nat} {v tx : pV} {st : Nat → pV} {rf : Nat → Int32} (wf : pv_wf n m T v) : ∀ (c i : Nat) (x : Int32) (M : mM), i + c = n → Mst M d v st rf tx t → ∃ M', frM M M' ∧ Mst M' d v st rf tx t ∧ M'.2.2 = M.2.2 ∧ fM_rings_L4 x (nI i) M = some (mi_lp (fun i x => x + pv_b (pv_fol v 6 0 (nI i)).2) c i x, M') := by
  obtain ⟨h4, h5, hn, hm, -⟩ := id wf
  intro c
  induction c with
  | zero =>
    intro i x M hi h
    refine ⟨M, frM.rf M, h, rfl, ?_⟩
    rw [fM_rings_L4_eq, ix_4_154, Option.bind_some, h.2.1, Nat.zero_add, h4, if_pos (nI_le (by omega) (by omega))]
    rfl
  | succ c ih =>
    intro i x M hi h
    obtain ⟨M1, a1, a2, a3, a4⟩ := cM_ringOf h wf (a := i) (by omega)
    obtain ⟨M2, b1, b2, b3, b4⟩ := ih (i + 1) (x + pv_b (pv_fol v 6 0 (nI i)).2) M1 (by omega) a2
    refine ⟨M2, a1.tr b1, b2, b3.trans a3, ?_⟩
    rw [fM_rings_L4_eq, ix_4_154, Option.bind_some, h.2.1, Nat.zero_add, h4, if_neg (show ¬ nI n ≤ nI i from fun z => by rw [i_le, i_nI (by omega), i_nI (by omega)] at z; omega), a4, Option.bind_some, nI_1, mi_lp_S]
    exact b4
def pv_count (n m : Nat) (v : pV) (i : Nat) : Int32 := if i = 0 then v 0 else if i = 1 then v 1 else if i = 2 then v 2 else if i = 3 then v 4 else if i = 4 then v 5 else if i = 5 then pv_ref n v else if i = 6 then pv_rings n v else if i = 7 then pv_sum m v 5 else if i = 8 then pv_sum m v 6 else v 3
