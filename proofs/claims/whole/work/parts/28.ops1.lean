/-! PURE: the orders, one by one: tests, a node's and a link's first state -/
def pv_in (a lo hi : Int32) : Bool := decide (¬ a < lo ∧ ¬ hi < a)
def pv_isn (n : Nat) (a : Int32) : Bool := decide (0 ≤ a.toInt ∧ a.toInt < n)
def pv_iso (q r : Int32) : Bool := pv_in q 0 9 && pv_in r (-99) 99
theorem pv_isn_of {n : Nat} {a : Int32} (h : pv_isn n a = true) (hn : n < 2147483648) : ∃ i, i < n ∧ a = nI i := by
  obtain ⟨h1, h2⟩ := of_decide_eq_true h
  refine ⟨a.toInt.toNat, by omega, ?_⟩
  rw [i_eq, i_nI (by omega)]
  omega
theorem pv_isn_nI {n i : Nat} (h : i < n) (hn : n < 2147483648) : pv_isn n (nI i) = true := by
  unfold pv_isn
  rw [decide_eq_true_eq, i_nI (by omega)]
  omega
theorem pv_in_iff (a lo hi : Int32) : pv_in a lo hi = true ↔ lo.toInt ≤ a.toInt ∧ a.toInt ≤ hi.toInt := by
  unfold pv_in
  rw [decide_eq_true_eq, i_lt, i_lt]
  omega
/-- a node as at first -/
def pv_rw (q r : Int32) (w : Nat) : Int32 := if w = 0 then q else if w = 1 then 0 else if w = 2 then r else if w = 3 then -1001 else if w = 4 then q else if w = 5 then r else 0
def pv_sn (v : pV) (i : Nat) (q r : Int32) : pV := fun p => if 6 + 8 * i ≤ p ∧ p < 6 + 8 * i + 8 then pv_rw q r (p - (6 + 8 * i)) else v p
theorem pv_sn_of {z v : pV} {i : Nat} {q r : Int32} (h : ∀ w, w < 8 → z (6 + 8 * i + w) = pv_rw q r w) (ho : ∀ p, (p < 6 + 8 * i ∨ 6 + 8 * i + 8 ≤ p) → z p = v p) : z = pv_sn v i q r := by
  funext p
  unfold pv_sn
  by_cases hp : 6 + 8 * i ≤ p ∧ p < 6 + 8 * i + 8
  · rw [if_pos hp, ← h (p - (6 + 8 * i)) (by omega), show 6 + 8 * i + (p - (6 + 8 * i)) = p by omega]
  · rw [if_neg hp, ho p (by omega)]
theorem pv_sn_at {v : pV} {i w : Nat} {q r : Int32} (hw : w < 8) : pv_sn v i q r (6 + 8 * i + w) = pv_rw q r w := by
  unfold pv_sn
  rw [if_pos (by omega), show 6 + 8 * i + w - (6 + 8 * i) = w by omega]
theorem pv_sn_ne {v : pV} {i p : Nat} {q r : Int32} (h : p < 6 + 8 * i ∨ 6 + 8 * i + 8 ≤ p) : pv_sn v i q r p = v p := by
  unfold pv_sn
  rw [if_neg (by omega)]
/-- a link's store as at first -/
def pv_st (v : pV) (l : Nat) (x : Int32) : pV := fun p => if 54 + 10 * l + 4 ≤ p ∧ p < 54 + 10 * l + 10 then (if p = 54 + 10 * l + 4 ∨ p = 54 + 10 * l + 7 ∨ p = 54 + 10 * l + 8 then x else 0) else v p
theorem pv_st_of {z v : pV} {l : Nat} {x : Int32} (h4 : z (54 + 10 * l + 4) = x) (h5 : z (54 + 10 * l + 5) = 0) (h6 : z (54 + 10 * l + 6) = 0) (h7 : z (54 + 10 * l + 7) = x) (h8 : z (54 + 10 * l + 8) = x) (h9 : z (54 + 10 * l + 9) = 0) (ho : ∀ p, (p < 54 + 10 * l + 4 ∨ 54 + 10 * l + 10 ≤ p) → z p = v p) : z = pv_st v l x := by
  funext p
  unfold pv_st
  by_cases hp : 54 + 10 * l + 4 ≤ p ∧ p < 54 + 10 * l + 10
  · rw [if_pos hp]
    have : p = 54 + 10 * l + 4 ∨ p = 54 + 10 * l + 5 ∨ p = 54 + 10 * l + 6 ∨ p = 54 + 10 * l + 7 ∨ p = 54 + 10 * l + 8 ∨ p = 54 + 10 * l + 9 := by omega
    rcases this with rfl | rfl | rfl | rfl | rfl | rfl
    · rw [if_pos (by omega), h4]
    · rw [if_neg (by omega), h5]
    · rw [if_neg (by omega), h6]
    · rw [if_pos (by omega), h7]
    · rw [if_pos (by omega), h8]
    · rw [if_neg (by omega), h9]
  · rw [if_neg hp, ho p (by omega)]
theorem pv_st_ne {v : pV} {l p : Nat} {x : Int32} (h : p < 54 + 10 * l + 4 ∨ 54 + 10 * l + 10 ≤ p) : pv_st v l x p = v p := by
  unfold pv_st
  rw [if_neg (by omega)]
theorem pv_st_456 {v : pV} {l : Nat} {x : Int32} : pv_st v l x (54 + 10 * l + 4) = x ∧ pv_st v l x (54 + 10 * l + 5) = 0 ∧ pv_st v l x (54 + 10 * l + 6) = 0 := by
  unfold pv_st
  exact ⟨by rw [if_pos (by omega), if_pos (by omega)], by rw [if_pos (by omega), if_neg (by omega)], by rw [if_pos (by omega), if_neg (by omega)]⟩
section PC
variable {n m T : Nat} {v : pV} {j : Nat} {M : mM}
theorem cX_isWithin (a lo hi : Int32) : fX_isWithin a lo hi M = some (pv_b (pv_in a lo hi), M) := by
  rw [fX_isWithin_eq]
  unfold pv_in
  by_cases h1 : a < lo
  · rw [if_pos h1]; simp [h1, pv_b]
  · rw [if_neg h1]
    by_cases h2 : hi < a
    · rw [if_pos h2]; simp [h2, pv_b]
    · rw [if_neg h2]; simp [h1, h2, pv_b]
theorem cM_in (a lo hi : Int32) : fM_in a lo hi M = some (pv_b (pv_in a lo hi), M) := by
  rw [fM_in_eq]
  unfold pv_in
  by_cases h1 : a < lo
  · rw [if_pos h1]; simp [h1, pv_b]
  · rw [if_neg h1]
    by_cases h2 : hi < a
    · rw [if_pos h2]; simp [h2, pv_b]
    · rw [if_neg h2]; simp [h1, h2, pv_b]
theorem has_cls {n : Nat} (hn : n ≤ 10) (a : Int32) : (if a < 0 then some ((0 : Int32), M) else (if nI n ≤ a then some (0, M) else some (1, M))) = some (pv_b (pv_isn n a), M) := by
  have k0 : (0 : Int32).toInt = 0 := by decide
  unfold pv_isn
  by_cases h1 : a < 0
  · rw [if_pos h1]
    rw [i_lt, k0] at h1
    rw [decide_eq_false (by omega)]; rfl
  · rw [if_neg h1]
    rw [i_lt, k0] at h1
    by_cases h2 : nI n ≤ a
    · rw [if_pos h2]
      rw [i_le, i_nI (by omega)] at h2
      rw [decide_eq_false (by omega)]; rfl
    · rw [if_neg h2]
      rw [i_le, i_nI (by omega)] at h2
      rw [decide_eq_true (by omega)]; rfl
theorem in_has {n : Nat} (hn : n ≤ 10) (a : Int32) : pv_in a 0 (nI n - 1) = pv_isn n a := by
  have k0 : (0 : Int32).toInt = 0 := by decide
  have k1 : (1 : Int32).toInt = 1 := by decide
  have e : (nI n - 1).toInt = n - 1 := by rw [i_sub (by rw [i_nI (by omega), k1]; omega) (by rw [i_nI (by omega), k1]; omega), i_nI (by omega), k1]
  unfold pv_in pv_isn
  refine decide_eq_decide.mpr ?_
  rw [i_lt, i_lt, k0, e]
  omega
theorem cN_hasNode (hv : M.1 0 j = v) (h4 : v 4 = nI n) (hn : n ≤ 6) (a : Int32) : fN_hasNode j a M = some (pv_b (pv_isn n a), M) := by
  rw [fN_hasNode_eq, hv, h4]
  exact has_cls (by omega) a
theorem cN_hasLink (hv : M.1 0 j = v) (h5 : v 5 = nI m) (hm : m ≤ 10) (a : Int32) : fN_hasLink j a M = some (pv_b (pv_isn m a), M) := by
  rw [fN_hasLink_eq, hv, h5]
  exact has_cls (by omega) a
theorem cM_isNode (hv : M.1 30 0 = v) (h4 : v 4 = nI n) (hn : n ≤ 6) (a : Int32) : fM_isNode a M = some (pv_b (pv_isn n a), M) := by
  rw [fM_isNode_eq]
  simp only [ix_4_154, Option.bind_some, Nat.zero_add, hv, h4, cM_in, in_has (show n ≤ 10 by omega), if_pos (pv_b01 _)]
theorem cM_isLink (hv : M.1 30 0 = v) (h5 : v 5 = nI m) (hm : m ≤ 10) (a : Int32) : fM_isLink a M = some (pv_b (pv_isn m a), M) := by
  rw [fM_isLink_eq]
  simp only [ix_5_154, Option.bind_some, Nat.zero_add, hv, h5, cM_in, in_has hm, if_pos (pv_b01 _)]
theorem cN_isOwn (q r : Int32) : fN_isOwn q r M = some (pv_b (pv_iso q r), M) := by
  rw [fN_isOwn_eq]
  simp only [cX_isWithin, Option.bind_some]
  unfold pv_iso
  cases pv_in q 0 9 <;> cases pv_in r (-99) 99 <;> simp [pv_b]
theorem cM_isOwn (q r : Int32) : fM_isOwn q r M = some (pv_b (pv_iso q r), M) := by
  rw [fM_isOwn_eq]
  simp only [cM_in, Option.bind_some]
  unfold pv_iso
  cases pv_in q 0 9 <;> cases pv_in r (-99) 99 <;> simp [pv_b]
theorem cN_startNode (hv : M.1 0 j = v) (i : Nat) (q r : Int32) : fN_startNode j i q r M = some (mi_pv M 0 j (pv_sn v i q r)) := by
  rw [fN_startNode_eq]
  simp only [ix_0_8, ix_1_8, ix_2_8, ix_3_8, ix_4_8, ix_5_8, ix_6_8, ix_7_8, Option.bind_some, mi_set_pv, mi_pv_at, mi_pv_pv, hv]
  congr 2
  refine pv_sn_of (fun w hw => ?_) (fun p hp => ?_)
  · have : w = 0 ∨ w = 1 ∨ w = 2 ∨ w = 3 ∨ w = 4 ∨ w = 5 ∨ w = 6 ∨ w = 7 := by omega
    rcases this with rfl | rfl | rfl | rfl | rfl | rfl | rfl | rfl <;> simp [upd, pv_rw]
  · rw [upd_ne (by omega), upd_ne (by omega), upd_ne (by omega), upd_ne (by omega), upd_ne (by omega), upd_ne (by omega), upd_ne (by omega), upd_ne (by omega)]
theorem cN_startStore (hv : M.1 0 j = v) (l : Nat) (x : Int32) : fN_startStore j l x M = some (mi_pv M 0 j (pv_st v l x)) := by
  rw [fN_startStore_eq]
  simp only [ix_4_10, ix_7_10, ix_8_10, ix_5_10, ix_6_10, ix_9_10, Option.bind_some, mi_set_pv, mi_pv_at, mi_pv_pv, hv]
  congr 2
  refine pv_st_of ?_ ?_ ?_ ?_ ?_ ?_ (fun p hp => ?_) <;> try (simp [upd]; done)
  rw [upd_ne (by omega), upd_ne (by omega), upd_ne (by omega), upd_ne (by omega), upd_ne (by omega), upd_ne (by omega)]
theorem cM_own (hv : M.1 30 0 = v) {i : Nat} (hi : i < 6) (q r : Int32) : fM_own (nI i) q r M = some (mi_pv M 30 0 (pv_sn v i q r)) := by
  rw [fM_own_eq]
  rw [show fM_putNode (nI i) 4 q M = _ from cM_putNode hv (w := 4) hi (by decide) q]
  simp only [Option.bind_some]
  rw [show ∀ x (u : pV), fM_putNode (nI i) 5 x (mi_pv M 30 0 u) = _ from fun x u => cM_putNode (mi_pv_at _ _ _ _) (w := 5) hi (by decide) x]
  simp only [Option.bind_some, mi_pv_pv]
  rw [show ∀ x (u : pV), fM_putNode (nI i) 6 x (mi_pv M 30 0 u) = _ from fun x u => cM_putNode (mi_pv_at _ _ _ _) (w := 6) hi (by decide) x]
  simp only [Option.bind_some, mi_pv_pv]
  rw [show ∀ x (u : pV), fM_putNode (nI i) 7 x (mi_pv M 30 0 u) = _ from fun x u => cM_putNode (mi_pv_at _ _ _ _) (w := 7) hi (by decide) x]
  simp only [Option.bind_some, mi_pv_pv]
  rw [cM_begin (mi_pv_at _ _ _ _) hi]
  simp only [Option.bind_some, mi_pv_pv]
  congr 2
  refine pv_sn_of (fun w hw => ?_) (fun p hp => ?_)
  · have : w = 0 ∨ w = 1 ∨ w = 2 ∨ w = 3 ∨ w = 4 ∨ w = 5 ∨ w = 6 ∨ w = 7 := by omega
    rcases this with rfl | rfl | rfl | rfl | rfl | rfl | rfl | rfl <;> simp [upd, pv_rw]
  · rw [upd_ne (by omega), upd_ne (by omega), upd_ne (by omega), upd_ne (by omega), upd_ne (by omega), upd_ne (by omega), upd_ne (by omega), upd_ne (by omega)]
theorem cM_reset (hv : M.1 30 0 = v) {l : Nat} (hl : l < 10) : fM_reset (nI l) M = some (mi_pv M 30 0 (pv_st v l (v (54 + 10 * l + 4)))) := by
  rw [fM_reset_eq]
  rw [show fM_linkAt (nI l) 4 M = _ from cM_linkAt hv (w := 4) hl (by decide)]
  simp only [Option.bind_some]
  rw [show ∀ x, fM_putLink (nI l) 7 x M = _ from fun x => cM_putLink hv (w := 7) hl (by decide) x]
  simp only [Option.bind_some]
  rw [show ∀ (u : pV), fM_linkAt (nI l) 4 (mi_pv M 30 0 u) = _ from fun u => cM_linkAt (mi_pv_at _ _ _ _) (w := 4) hl (by decide)]
  simp only [Option.bind_some]
  rw [show ∀ x (u : pV), fM_putLink (nI l) 8 x (mi_pv M 30 0 u) = _ from fun x u => cM_putLink (mi_pv_at _ _ _ _) (w := 8) hl (by decide) x]
  simp only [Option.bind_some, mi_pv_pv]
  rw [show ∀ x (u : pV), fM_putLink (nI l) 5 x (mi_pv M 30 0 u) = _ from fun x u => cM_putLink (mi_pv_at _ _ _ _) (w := 5) hl (by decide) x]
  simp only [Option.bind_some, mi_pv_pv]
  rw [show ∀ x (u : pV), fM_putLink (nI l) 6 x (mi_pv M 30 0 u) = _ from fun x u => cM_putLink (mi_pv_at _ _ _ _) (w := 6) hl (by decide) x]
  simp only [Option.bind_some, mi_pv_pv]
  rw [show ∀ x (u : pV), fM_putLink (nI l) 9 x (mi_pv M 30 0 u) = _ from fun x u => cM_putLink (mi_pv_at _ _ _ _) (w := 9) hl (by decide) x]
  simp only [Option.bind_some, mi_pv_pv]
  congr 2
  refine pv_st_of ?_ ?_ ?_ ?_ ?_ ?_ (fun p hp => ?_) <;> try (simp [upd]; done)
  rw [upd_ne (by omega), upd_ne (by omega), upd_ne (by omega), upd_ne (by omega), upd_ne (by omega)]
theorem cM_fill (hv : M.1 30 0 = v) {l : Nat} (hl : l < 10) : fM_fill (nI l) M = some (mi_pv M 30 0 (pv_st v l (v 0))) := by
  rw [fM_fill_eq]
  simp only [ix_0_154, Option.bind_some, Nat.zero_add, hv]
  rw [show ∀ x, fM_putLink (nI l) 4 x M = _ from fun x => cM_putLink hv (w := 4) hl (by decide) x]
  simp only [Option.bind_some]
  rw [cM_reset (mi_pv_at _ _ _ _) hl]
  simp only [Option.bind_some, mi_pv_pv, upd_same]
  congr 2
  obtain ⟨a, b, c⟩ := pv_st_456 (v := upd v (54 + 10 * l + 4) (v 0)) (l := l) (x := v 0)
  refine pv_st_of a b c ?_ ?_ ?_ (fun p hp => ?_)
  · unfold pv_st; rw [if_pos (by omega), if_pos (by omega)]
  · unfold pv_st; rw [if_pos (by omega), if_pos (by omega)]
  · unfold pv_st; rw [if_pos (by omega), if_neg (by omega)]
  · rw [pv_st_ne hp, upd_ne (by omega)]
end PC
