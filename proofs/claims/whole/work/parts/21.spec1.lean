/-! PURE: what a net is; which clock a node goes by -/
def pv_wfN (m : Nat) (v : pV) (i : Nat) : Prop :=
  (0 ≤ (v (6 + 8 * i + 0)).toInt ∧ (v (6 + 8 * i + 0)).toInt ≤ 9) ∧ (0 ≤ (v (6 + 8 * i + 1)).toInt ∧ (v (6 + 8 * i + 1)).toInt ≤ 9) ∧ (-99 ≤ (v (6 + 8 * i + 2)).toInt ∧ (v (6 + 8 * i + 2)).toInt ≤ 99) ∧
  (v (6 + 8 * i + 3) = -1001 ∨ ∃ l, l < m ∧ v (6 + 8 * i + 3) = nI l) ∧ (0 ≤ (v (6 + 8 * i + 4)).toInt ∧ (v (6 + 8 * i + 4)).toInt ≤ 9) ∧ (-99 ≤ (v (6 + 8 * i + 5)).toInt ∧ (v (6 + 8 * i + 5)).toInt ≤ 99) ∧ (-99 ≤ (v (6 + 8 * i + 6)).toInt ∧ (v (6 + 8 * i + 6)).toInt ≤ 99)
def pv_wfL (n T : Nat) (v : pV) (l : Nat) : Prop :=
  (∃ a, a < n ∧ v (54 + 10 * l + 0) = nI a) ∧ (∃ b, b < n ∧ v (54 + 10 * l + 1) = nI b) ∧ (0 ≤ (v (54 + 10 * l + 2)).toInt ∧ (v (54 + 10 * l + 2)).toInt ≤ 9) ∧ (v (54 + 10 * l + 3) = 0 ∨ v (54 + 10 * l + 3) = 1) ∧
  (0 ≤ (v (54 + 10 * l + 4)).toInt ∧ (v (54 + 10 * l + 4)).toInt ≤ 2 * (v 0).toInt) ∧ 0 ≤ (v (54 + 10 * l + 5)).toInt ∧ 0 ≤ (v (54 + 10 * l + 6)).toInt ∧ (v (54 + 10 * l + 5)).toInt + (v (54 + 10 * l + 6)).toInt ≤ T
def pv_wf (n m T : Nat) (v : pV) : Prop :=
  v 4 = nI n ∧ v 5 = nI m ∧ n ≤ 6 ∧ m ≤ 10 ∧ (4 ≤ (v 0).toInt ∧ (v 0).toInt ≤ 64) ∧ (0 ≤ (v 1).toInt ∧ (v 1).toInt ≤ 128) ∧ (1 ≤ (v 2).toInt ∧ (v 2).toInt ≤ 9) ∧ (∀ i, i < n → pv_wfN m v i) ∧ ∀ l, l < m → pv_wfL n T v l
/-- the node that a node's reference comes from -/
def pv_src (v : pV) (i : Nat) : Int32 := if v (6 + 8 * i + 3) = -1001 then -1001 else v (54 + 10 * (v (6 + 8 * i + 3)).toNatClampNeg + 0)
/-- the node that a link comes from -/
def pv_fr (v : pV) (l : Nat) : Nat := (v (54 + 10 * l + 0)).toNatClampNeg
def pv_off (v : pV) (l : Nat) : Bool := decide (v (54 + 10 * l + 3) = 1 ∧ ¬ pv_src v (pv_fr v l) = v (54 + 10 * l + 1) ∧ v (6 + 8 * pv_fr v l + 1) < v 2)
def pv_key (v : pV) (l : Nat) : Int32 := ((100 * v (6 + 8 * pv_fr v l + 0)) + (10 * (v (6 + 8 * pv_fr v l + 1) + 1))) + v (54 + 10 * l + 2)
/-- of two links: which one a node takes -/
def pv_tk (v : pV) (i l : Nat) (f : Int32) : Int32 := if v (54 + 10 * l + 1) = nI i ∧ pv_off v l = true ∧ v (6 + 8 * pv_fr v l + 0) < v (6 + 8 * i + 4) ∧ (f = -1001 ∨ pv_key v l < pv_key v f.toNatClampNeg) then nI l else f
def pv_take (m : Nat) (v : pV) (i : Nat) : Int32 := mi_lp (pv_tk v i) m 0 (-1001)
section PC
variable {n m T : Nat} {v : pV} {j : Nat} {M : mM}
theorem pv_wf.fr (wf : pv_wf n m T v) {l : Nat} (hl : l < m) : pv_fr v l < n ∧ v (54 + 10 * l + 0) = nI (pv_fr v l) := by
  obtain ⟨⟨a, ha, e⟩, -⟩ := wf.2.2.2.2.2.2.2.2 l hl
  have hn := wf.2.2.1
  have : pv_fr v l = a := by unfold pv_fr; rw [e, nI_clp a (by omega)]
  rw [this]
  exact ⟨ha, e⟩
theorem pv_wf.src (wf : pv_wf n m T v) {i : Nat} (hi : i < n) : pv_src v i = -1001 ∨ ∃ a, a < n ∧ pv_src v i = nI a := by
  have hm := wf.2.2.2.1
  unfold pv_src
  rcases (wf.2.2.2.2.2.2.2.1 i hi).2.2.2.1 with e | ⟨l, hl, e⟩
  · rw [if_pos e]; exact Or.inl rfl
  · rw [if_neg (by rw [e]; exact nI_nNONE l (by omega)), e, nI_clp l (by omega)]
    obtain ⟨a, ha, e2⟩ := (wf.2.2.2.2.2.2.2.2 l hl).1
    exact Or.inr ⟨a, ha, e2⟩
theorem cN_nodeAhead (hv : M.1 0 j = v) (wf : pv_wf n m T v) {i : Nat} (hi : i < n) : fN_nodeAhead j (nI i) M = some (pv_src v i, M) := by
  subst hv
  have hn := wf.2.2.1
  have hm := wf.2.2.2.1
  rw [fN_nodeAhead_eq, mi_ix_n (by omega : i < 6) (by decide), Option.bind_some, ix_3_8, Option.bind_some]
  unfold pv_src
  rcases (wf.2.2.2.2.2.2.2.1 i hi).2.2.2.1 with e | ⟨l, hl, e⟩
  · rw [e, if_pos (by decide), if_pos rfl]
  · rw [e, if_neg (nI_nneg l (by omega)), wf.2.1, if_neg (nI_ge hl (by omega)), mi_ix_n (by omega : l < 10) (by decide), Option.bind_some, ix_0_10, Option.bind_some, if_neg (nI_nNONE l (by omega)), nI_clp l (by omega)]
theorem cN_isOffering (hv : M.1 0 j = v) (wf : pv_wf n m T v) {l : Nat} (hl : l < m) : fN_isOffering j (nI l) M = some (if pv_off v l = true then 1 else 0, M) := by
  have hn := wf.2.2.1
  have hm := wf.2.2.2.1
  obtain ⟨ha, e⟩ := wf.fr hl
  rw [fN_isOffering_eq, mi_ix_n (by omega : l < 10) (by decide)]
  simp only [Option.bind_some, ix_0_10, ix_3_10, ix_1_10, ix_1_8, ix_2_3, hv, e]
  rw [cN_nodeAhead hv wf ha]
  simp only [Option.bind_some, hv, mi_ix_n (by omega : pv_fr v l < 6) (by decide), Nat.zero_add]
  unfold pv_off
  by_cases h1 : v (54 + 10 * l + 3) = 1
  · rw [if_neg (fun q => q h1)]
    by_cases h2 : pv_src v (pv_fr v l) = v (54 + 10 * l + 1)
    · rw [if_pos h2, if_neg (by simp [h2])]
    · rw [if_neg h2]
      by_cases h3 : v (6 + 8 * pv_fr v l + 1) < v 2
      · rw [if_neg (Int32.not_le.mpr h3), if_pos (by simp [h1, h2, h3])]
      · rw [if_pos (Int32.not_lt.mp h3), if_neg (by simp [h3])]
  · rw [if_pos h1, if_neg (by simp [h1])]
theorem cN_keyOf (hv : M.1 0 j = v) (wf : pv_wf n m T v) {l : Nat} (hl : l < m) : fN_keyOf j l M = some (pv_key v l, M) := by
  have hn := wf.2.2.1
  obtain ⟨ha, e⟩ := wf.fr hl
  rw [fN_keyOf_eq]
  simp only [Option.bind_some, ix_0_10, ix_0_8, ix_1_8, ix_2_10, hv, e, mi_ix_n (by omega : pv_fr v l < 6) (by decide)]
  rfl
-- the reference
theorem cM_nodeAt (hv : M.1 30 0 = v) {i w : Nat} (hi : i < 6) (hw : w < 8) : fM_nodeAt (nI i) (nI w) M = some (v (6 + 8 * i + w), M) := by
  rw [fM_nodeAt_eq, pn_ix hi hw, Option.bind_some, hv, Nat.zero_add]
theorem cM_linkAt (hv : M.1 30 0 = v) {i w : Nat} (hi : i < 10) (hw : w < 10) : fM_linkAt (nI i) (nI w) M = some (v (54 + 10 * i + w), M) := by
  rw [fM_linkAt_eq, pl_ix hi hw, Option.bind_some, hv, Nat.zero_add]
theorem cM_putNode (hv : M.1 30 0 = v) {i w : Nat} (hi : i < 6) (hw : w < 8) (x : Int32) : fM_putNode (nI i) (nI w) x M = some (mi_pv M 30 0 (upd v (6 + 8 * i + w) x)) := by
  rw [fM_putNode_eq, pn_ix hi hw, Option.bind_some, Nat.zero_add, mi_set_pv, hv]
theorem cM_putLink (hv : M.1 30 0 = v) {i w : Nat} (hi : i < 10) (hw : w < 10) (x : Int32) : fM_putLink (nI i) (nI w) x M = some (mi_pv M 30 0 (upd v (54 + 10 * i + w) x)) := by
  rw [fM_putLink_eq, pl_ix hi hw, Option.bind_some, Nat.zero_add, mi_set_pv, hv]
theorem cM_sourceOf (hv : M.1 30 0 = v) (wf : pv_wf n m T v) {i : Nat} (hi : i < n) : fM_sourceOf (nI i) M = some (pv_src v i, M) := by
  have hn := wf.2.2.1
  have hm := wf.2.2.2.1
  rw [fM_sourceOf_eq, show (3 : Int32) = nI 3 from rfl, cM_nodeAt hv (by omega) (by decide)]
  simp only [Option.bind_some]
  unfold pv_src
  rcases (wf.2.2.2.2.2.2.2.1 i hi).2.2.2.1 with e | ⟨l, hl, e⟩
  · rw [e, if_neg (fun q => q rfl), if_pos rfl]
  · rw [e, if_pos (nI_nNONE l (by omega)), if_pos (nI_pos' (by omega)), show (0 : Int32) = nI 0 from rfl, cM_linkAt hv (by omega) (by decide), if_neg (nI_nNONE l (by omega)), nI_clp l (by omega)]
    rfl
theorem cM_isOffered (hv : M.1 30 0 = v) (wf : pv_wf n m T v) {l : Nat} (hl : l < m) : fM_isOffered (nI l) M = some (if pv_off v l = true then 1 else 0, M) := by
  have hn := wf.2.2.1
  have hm := wf.2.2.2.1
  obtain ⟨ha, e⟩ := wf.fr hl
  rw [fM_isOffered_eq]
  rw [show fM_linkAt (nI l) 0 M = some (v (54 + 10 * l + 0), M) from cM_linkAt hv (w := 0) (by omega) (by decide)]
  simp only [Option.bind_some]
  rw [show fM_linkAt (nI l) 3 M = some (v (54 + 10 * l + 3), M) from cM_linkAt hv (w := 3) (by omega) (by decide)]
  simp only [Option.bind_some, e]
  rw [cM_sourceOf hv wf ha]
  simp only [Option.bind_some]
  rw [show fM_linkAt (nI l) 1 M = some (v (54 + 10 * l + 1), M) from cM_linkAt hv (w := 1) (by omega) (by decide)]
  simp only [Option.bind_some]
  rw [show fM_nodeAt (nI (pv_fr v l)) 1 M = some (v (6 + 8 * pv_fr v l + 1), M) from cM_nodeAt hv (w := 1) (by omega) (by decide)]
  simp only [Option.bind_some, ix_2_154, hv, Nat.zero_add]
  unfold pv_off
  by_cases h1 : v (54 + 10 * l + 3) = 1
  · rw [if_neg (fun q => q h1)]
    by_cases h2 : pv_src v (pv_fr v l) = v (54 + 10 * l + 1)
    · rw [if_pos h2, if_neg (by simp [h2])]
    · rw [if_neg h2]
      by_cases h3 : v (6 + 8 * pv_fr v l + 1) < v 2
      · rw [if_neg (Int32.not_le.mpr h3), if_pos (by simp [h1, h2, h3])]
      · rw [if_pos (Int32.not_lt.mp h3), if_neg (by simp [h3])]
  · rw [if_pos h1, if_neg (by simp [h1])]
/-- the three numbers that a link offers -/
def pv_of (v : pV) (l w : Nat) : Int32 := if w = 1 then v (6 + 8 * pv_fr v l + 1) + 1 else v (6 + 8 * pv_fr v l + w)
theorem cM_offerOf (hv : M.1 30 0 = v) (wf : pv_wf n m T v) {l w : Nat} (hl : l < m) (hw : w < 3) : fM_offerOf (nI l) (nI w) M = some (pv_of v l w, M) := by
  have hn := wf.2.2.1
  have hm := wf.2.2.2.1
  obtain ⟨ha, e⟩ := wf.fr hl
  rw [fM_offerOf_eq]
  rw [show fM_linkAt (nI l) 0 M = some (v (54 + 10 * l + 0), M) from cM_linkAt hv (w := 0) (by omega) (by decide)]
  simp only [Option.bind_some, e]
  have hw' : w = 0 ∨ w = 1 ∨ w = 2 := by omega
  rcases hw' with rfl | rfl | rfl
  · rw [if_neg (by decide), show fM_nodeAt (nI (pv_fr v l)) 0 M = some (v (6 + 8 * pv_fr v l + 0), M) from cM_nodeAt hv (w := 0) (by omega) (by decide)]
    rfl
  · rw [if_pos (by decide), if_neg (by decide), show fM_nodeAt (nI (pv_fr v l)) 1 M = some (v (6 + 8 * pv_fr v l + 1), M) from cM_nodeAt hv (w := 1) (by omega) (by decide)]
    rfl
  · rw [if_pos (by decide), if_pos (by decide), show fM_nodeAt (nI (pv_fr v l)) 2 M = some (v (6 + 8 * pv_fr v l + 2), M) from cM_nodeAt hv (w := 2) (by omega) (by decide)]
    rfl
theorem cM_isAhead (hv : M.1 30 0 = v) (wf : pv_wf n m T v) {l k : Nat} (hl : l < m) (hk : k < m) : fM_isAhead (nI l) (nI k) M = some (if pv_key v l < pv_key v k then 1 else 0, M) := by
  have hm := wf.2.2.2.1
  rw [fM_isAhead_eq]
  rw [show fM_offerOf (nI l) 0 M = _ from cM_offerOf hv wf (w := 0) hl (by decide)]
  simp only [Option.bind_some]
  rw [show fM_offerOf (nI l) 1 M = _ from cM_offerOf hv wf (w := 1) hl (by decide)]
  simp only [Option.bind_some]
  rw [show fM_linkAt (nI l) 2 M = _ from cM_linkAt hv (w := 2) (by omega) (by decide)]
  simp only [Option.bind_some]
  rw [show fM_offerOf (nI k) 0 M = _ from cM_offerOf hv wf (w := 0) hk (by decide)]
  simp only [Option.bind_some]
  rw [show fM_offerOf (nI k) 1 M = _ from cM_offerOf hv wf (w := 1) hk (by decide)]
  simp only [Option.bind_some]
  rw [show fM_linkAt (nI k) 2 M = _ from cM_linkAt hv (w := 2) (by omega) (by decide)]
  simp only [Option.bind_some]
  show (if pv_key v k ≤ pv_key v l then some (0, M) else some (1, M)) = _
  by_cases h : pv_key v l < pv_key v k
  · rw [if_neg (Int32.not_le.mpr h), if_pos h]
  · rw [if_pos (Int32.not_lt.mp h), if_neg h]
end PC
