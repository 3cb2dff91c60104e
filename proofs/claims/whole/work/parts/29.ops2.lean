/-! PURE: the orders node, link, owns, turns, sets, clears -/
def pv_node (n : Nat) (v : pV) (q r : Int32) : Int32 × pV := if pv_iso q r = true then (if n < 6 then (nI n, upd (pv_sn v n q r) 4 (nI (n + 1))) else (-1004, v)) else (-1002, v)
def pv_ln (v : pV) (l : Nat) (a b k : Int32) : pV := pv_st (upd (upd (upd (upd v (54 + 10 * l + 0) a) (54 + 10 * l + 1) b) (54 + 10 * l + 2) k) (54 + 10 * l + 3) 1) l (v 0)
def pv_link (n m : Nat) (v : pV) (a b k : Int32) : Int32 × pV := if (pv_isn n a && (pv_isn n b && (decide (¬ a = b) && pv_in k 0 9))) = true then (if m < 10 then (nI m, upd (pv_ln v m a b k) 5 (nI (m + 1))) else (-1004, v)) else (-1002, v)
def pv_cnt (n : Nat) (u : pV) (a : Int32) : Int32 := mi_lp (fun k c => if pv_src u k = a then c + 1 else c) n 0 0
def pv_owns (n : Nat) (v : pV) (a q r : Int32) : Int32 × pV := if (pv_isn n a && pv_iso q r) = true then (pv_cnt n (pv_sn v a.toNatClampNeg q r) a, pv_sn v a.toNatClampNeg q r) else (-1002, v)
def pv_turn (m : Nat) (v : pV) (a : Int32) : Int32 × pV := if pv_isn m a = true then (1 - v (54 + 10 * a.toNatClampNeg + 3), upd v (54 + 10 * a.toNatClampNeg + 3) (1 - v (54 + 10 * a.toNatClampNeg + 3))) else (-1002, v)
def pv_sok (k x : Int32) : Bool := (decide (k = 0) && pv_in x 4 64) || ((decide (k = 1) && pv_in x 0 128) || (decide (k = 2) && pv_in x 1 9))
def pv_fs (x : Int32) (l : Nat) (u : pV) : pV := pv_st u l x
def pv_sets (m : Nat) (v : pV) (k x : Int32) : Int32 × pV := if pv_sok k x = true then (v k.toNatClampNeg, if k = 0 then mi_lp (pv_fs x) m 0 (upd v 0 x) else upd v k.toNatClampNeg x) else (-1002, v)
def pv_clear (m : Nat) (v : pV) (a : Int32) : Int32 × pV := if pv_isn m a = true then (v (54 + 10 * a.toNatClampNeg + 5) + v (54 + 10 * a.toNatClampNeg + 6), pv_st v a.toNatClampNeg (v (54 + 10 * a.toNatClampNeg + 4))) else (-1002, v)
theorem pv_bt {x : Bool} (h : x = true) : pv_b x = 1 := by rw [h]; rfl
theorem pv_bf {x : Bool} (h : ¬ x = true) : pv_b x = 0 := by cases x <;> simp_all [pv_b]
theorem nI_ps (n : Nat) : nI n + 1 - 1 = nI n := by rw [nI_1, nI_pred]
section PC
variable {n m T : Nat} {v : pV} {j : Nat} {M : mM}
theorem pv_sn_wf (wf : pv_wf n m T v) {i : Nat} (hi : i < n) {q r : Int32} (ho : pv_iso q r = true) : pv_wf n m T (pv_sn v i q r) := by
  have hn := wf.2.2.1
  obtain ⟨a, b, c, d, e, f, g, wN, wL⟩ := wf
  have lo : ∀ p, p < 6 → pv_sn v i q r p = v p := fun p hp => pv_sn_ne (by omega)
  refine ⟨by rw [lo 4 (by decide)]; exact a, by rw [lo 5 (by decide)]; exact b, c, d, by rw [lo 0 (by decide)]; exact e, by rw [lo 1 (by decide)]; exact f, by rw [lo 2 (by decide)]; exact g, fun k hk => ?_, fun l hl => pv_wfL_c (lo 0 (by decide)) (fun w hw => pv_sn_ne (by omega)) (Nat.le_refl _) (wL l hl)⟩
  by_cases ek : k = i
  · subst ek
    unfold pv_iso at ho
    simp only [Bool.and_eq_true, pv_in_iff] at ho
    have k9 : (9 : Int32).toInt = 9 := by decide
    have k0 : (0 : Int32).toInt = 0 := by decide
    have k99 : (99 : Int32).toInt = 99 := by decide
    have m99 : (-99 : Int32).toInt = -99 := by decide
    rw [k9, k0, k99, m99] at ho
    unfold pv_wfN
    rw [pv_sn_at (by decide), pv_sn_at (by decide), pv_sn_at (by decide), pv_sn_at (by decide), pv_sn_at (by decide), pv_sn_at (by decide), pv_sn_at (by decide)]
    exact ⟨ho.1, show 0 ≤ (0 : Int32).toInt ∧ (0 : Int32).toInt ≤ 9 by decide, ho.2, Or.inl rfl, ho.1, ho.2, show -99 ≤ (0 : Int32).toInt ∧ (0 : Int32).toInt ≤ 99 by decide⟩
  · exact pv_wfN_c (fun w hw => pv_sn_ne (by omega)) (wN k hk)
theorem cN_addNode (hv : M.1 0 j = v) (h4 : v 4 = nI n) (hn : n ≤ 6) (q r : Int32) : fN_addNode j q r M = some ((pv_node n v q r).1, mi_pv M 0 j (pv_node n v q r).2) := by
  rw [fN_addNode_eq, cN_isOwn]
  simp only [Option.bind_some, hv, h4]
  unfold pv_node
  by_cases h1 : pv_iso q r = true
  · rw [pv_bt h1, if_pos (by decide), if_pos h1]
    by_cases h2 : n < 6
    · rw [if_pos (show nI n < 6 from nI_lt (b := 6) h2 (by decide)), if_pos h2, mi_ix_n h2 (by decide), Option.bind_some, cN_startNode hv]
      simp only [Option.bind_some, mi_set_pv, mi_pv_at, mi_pv_pv, upd_same]
      rw [pv_sn_ne (by omega), h4, nI_ps, nI_1]
    · rw [if_neg (show ¬ nI n < 6 from nI_nlt (b := 6) (by omega) (by omega)), if_neg h2, ← hv, mi_pv_self]
  · rw [pv_bf h1, if_neg (by decide), if_neg h1, ← hv, mi_pv_self]
theorem cM_doNode (hv : M.1 30 0 = v) (h4 : v 4 = nI n) (hn : n ≤ 6) (q r : Int32) : fM_doNode q r M = some ((pv_node n v q r).1, mi_pv M 30 0 (pv_node n v q r).2) := by
  rw [fM_doNode_eq, cM_isOwn]
  simp only [Option.bind_some, ix_4_154, Nat.zero_add, hv, h4, mi_set_pv, mi_pv_at, upd_same]
  unfold pv_node
  by_cases h1 : pv_iso q r = true
  · rw [pv_bt h1, if_pos (by decide), if_pos h1]
    by_cases h2 : n < 6
    · rw [if_pos (show ¬ nI n = 6 from fun e => by have := nI_ext (by omega) (by decide) (show nI n = nI 6 from e); omega), if_pos h2, nI_ps, cM_own (mi_pv_at _ _ _ _) h2]
      simp only [Option.bind_some, mi_pv_pv, mi_pv_at]
      rw [pv_sn_ne (by omega), upd_same, nI_ps]
      congr 3
      funext p
      by_cases e : p = 4
      · rw [e, upd_same, pv_sn_ne (by omega), upd_same, nI_1]
      · rw [upd_ne e]
        unfold pv_sn
        rw [upd_ne e]
    · rw [if_neg (fun z => z (by have : n = 6 := by omega
                                 rw [this]; rfl)), if_neg h2, ← hv, mi_pv_self]
  · rw [pv_bf h1, if_neg (by decide), if_neg h1, ← hv, mi_pv_self]
theorem cN_addLink (hv : M.1 0 j = v) (h4 : v 4 = nI n) (h5 : v 5 = nI m) (hn : n ≤ 6) (hm : m ≤ 10) (a b k : Int32) : fN_addLink j a b k M = some ((pv_link n m v a b k).1, mi_pv M 0 j (pv_link n m v a b k).2) := by
  rw [fN_addLink_eq, cN_hasNode hv h4 hn]
  simp only [Option.bind_some]
  rw [cN_hasNode hv h4 hn]
  simp only [Option.bind_some, cX_isWithin]
  unfold pv_link
  have bad : mi_pv M 0 j v = M := by rw [← hv, mi_pv_self]
  cases h1 : pv_isn n a with
  | false => simp [pv_b, bad]
  | true =>
    cases h2 : pv_isn n b with
    | false => simp [pv_b, bad]
    | true =>
      by_cases h3 : a = b
      · simp [pv_b, bad, h3]
      · cases h6 : pv_in k 0 9 with
        | false => simp [pv_b, bad, h3]
        | true =>
          rw [pv_bt rfl, if_neg (show ¬ (1 : Int32) = 0 by decide), if_neg (show ¬ (1 : Int32) = 0 by decide), if_neg h3, if_pos (show ¬ (1 : Int32) = 0 by decide), if_pos (show (true && (true && (decide (¬ a = b) && true))) = true by simp [h3])]
          simp only [hv, h5]
          by_cases h7 : m < 10
          · rw [if_pos (show nI m < 10 from nI_lt (b := 10) h7 (by decide)), if_pos h7, mi_ix_n h7 (by decide)]
            simp only [Option.bind_some, ix_0_10, ix_1_10, ix_2_10, ix_3_10, ix_0_3, mi_set_pv, mi_pv_at, mi_pv_pv, hv, Nat.zero_add]
            rw [cN_startStore (mi_pv_at _ _ _ _)]
            simp only [Option.bind_some, mi_pv_at, mi_pv_pv, upd_same]
            rw [pv_st_ne (by omega), upd_ne (by omega), upd_ne (by omega), upd_ne (by omega), upd_ne (by omega), h5, nI_ps, nI_1]
            rw [upd_ne (k := 54 + 10 * m + 3) (j := 0) (by omega), upd_ne (k := 54 + 10 * m + 2) (j := 0) (by omega), upd_ne (k := 54 + 10 * m + 1) (j := 0) (by omega), upd_ne (k := 54 + 10 * m + 0) (j := 0) (by omega)]
            rfl
          · rw [if_neg (show ¬ nI m < 10 from nI_nlt (b := 10) (by omega) (by omega)), if_neg h7, bad]
theorem cM_doLink (hv : M.1 30 0 = v) (h4 : v 4 = nI n) (h5 : v 5 = nI m) (hn : n ≤ 6) (hm : m ≤ 10) (a b k : Int32) : fM_doLink a b k M = some ((pv_link n m v a b k).1, mi_pv M 30 0 (pv_link n m v a b k).2) := by
  rw [fM_doLink_eq, cM_isNode hv h4 hn]
  simp only [Option.bind_some]
  rw [cM_isNode hv h4 hn]
  simp only [Option.bind_some, cM_in]
  unfold pv_link
  have bad : mi_pv M 30 0 v = M := by rw [← hv, mi_pv_self]
  cases h1 : pv_isn n a with
  | false => simp [pv_b, bad]
  | true =>
    cases h2 : pv_isn n b with
    | false => simp [pv_b, bad]
    | true =>
      by_cases h3 : a = b
      · simp [pv_b, bad, h3]
      · cases h6 : pv_in k 0 9 with
        | false => simp [pv_b, bad, h3]
        | true =>
          rw [pv_bt rfl, if_neg (by decide), if_neg (by decide), if_neg h3, if_pos (by decide), if_pos (by simp [h3])]
          simp only [ix_5_154, Option.bind_some, Nat.zero_add, hv, h5, mi_set_pv]
          by_cases h7 : m < 10
          · rw [if_pos (show ¬ nI m = 10 from fun e => by have := nI_ext (by omega) (by decide) (show nI m = nI 10 from e); omega), if_pos h7]
            rw [show ∀ x (u : pV), fM_putLink (nI m) 0 x (mi_pv M 30 0 u) = _ from fun x u => cM_putLink (mi_pv_at _ _ _ _) (w := 0) h7 (by decide) x]
            simp only [Option.bind_some, mi_pv_pv]
            rw [show ∀ x (u : pV), fM_putLink (nI m) 1 x (mi_pv M 30 0 u) = _ from fun x u => cM_putLink (mi_pv_at _ _ _ _) (w := 1) h7 (by decide) x]
            simp only [Option.bind_some, mi_pv_pv]
            rw [show ∀ x (u : pV), fM_putLink (nI m) 2 x (mi_pv M 30 0 u) = _ from fun x u => cM_putLink (mi_pv_at _ _ _ _) (w := 2) h7 (by decide) x]
            simp only [Option.bind_some, mi_pv_pv]
            rw [show ∀ x (u : pV), fM_putLink (nI m) 3 x (mi_pv M 30 0 u) = _ from fun x u => cM_putLink (mi_pv_at _ _ _ _) (w := 3) h7 (by decide) x]
            simp only [Option.bind_some, mi_pv_pv]
            rw [cM_fill (mi_pv_at _ _ _ _) h7]
            simp only [Option.bind_some, mi_pv_pv, nI_1]
            congr 3
            rw [upd_ne (k := 54 + 10 * m + 3) (j := 0) (by omega), upd_ne (k := 54 + 10 * m + 2) (j := 0) (by omega), upd_ne (k := 54 + 10 * m + 1) (j := 0) (by omega), upd_ne (k := 54 + 10 * m + 0) (j := 0) (by omega), upd_ne (k := 5) (j := 0) (by omega)]
            funext p
            unfold pv_ln
            by_cases e : p = 5
            · rw [e, upd_same, pv_st_ne (by omega), upd_ne (by omega), upd_ne (by omega), upd_ne (by omega), upd_ne (by omega), upd_same]
            · rw [upd_ne e]
              unfold pv_st
              by_cases hp : 54 + 10 * m + 4 ≤ p ∧ p < 54 + 10 * m + 10
              · rw [if_pos hp, if_pos hp]
              · rw [if_neg hp, if_neg hp]
                unfold upd
                simp [e]
          · rw [if_neg (fun z => z (by have : m = 10 := by omega
                                       rw [this]; rfl)), if_neg h7, bad]
end PC
