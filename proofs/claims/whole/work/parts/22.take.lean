/-! PURE: the link that a node takes: the reference's loop, and the class's by keys -/
theorem pv_tk_ok {v : pV} {i l : Nat} {f : Int32} (h : f = -1001 ∨ ∃ k, k < l ∧ f = nI k) : pv_tk v i l f = -1001 ∨ ∃ k, k < l + 1 ∧ pv_tk v i l f = nI k := by
  unfold pv_tk
  split
  · exact Or.inr ⟨l, by omega, rfl⟩
  · rcases h with h | ⟨k, hk, h⟩
    · exact Or.inl h
    · exact Or.inr ⟨k, by omega, h⟩
theorem pv_lp_ok {v : pV} {i : Nat} : ∀ (c l : Nat) (f : Int32), (f = -1001 ∨ ∃ k, k < l ∧ f = nI k) → mi_lp (pv_tk v i) c l f = -1001 ∨ ∃ k, k < l + c ∧ mi_lp (pv_tk v i) c l f = nI k
  | 0, l, f, h => h
  | c + 1, l, f, h => by
    have := pv_lp_ok (v := v) (i := i) c (l + 1) (pv_tk v i l f) (pv_tk_ok h)
    rw [show l + (c + 1) = l + 1 + c by omega]
    exact this
theorem pv_take_ok {m : Nat} {v : pV} {i : Nat} : pv_take m v i = -1001 ∨ ∃ k, k < m ∧ pv_take m v i = nI k := by
  have := pv_lp_ok (v := v) (i := i) m 0 (-1001) (Or.inl rfl)
  rwa [Nat.zero_add] at this
section PC
variable {n m T : Nat} {v : pV} {j : Nat} {M : mM}
theorem cM_takes_1 (hv : M.1 30 0 = v) (wf : pv_wf n m T v) {i l : Nat} (hi : i < n) (hl : l < m) {f : Int32} (hf : f = -1001 ∨ ∃ k, k < l ∧ f = nI k) : fM_takes_L6 (nI i) f (nI l) M = fM_takes_L6 (nI i) (pv_tk v i l f) (nI (l + 1)) M := by
  have hn := wf.2.2.1
  have hm := wf.2.2.2.1
  rw [fM_takes_L6_eq]
  simp only [ix_5_154, Option.bind_some, Nat.zero_add, hv, wf.2.1]
  rw [if_neg (nI_ge hl (by omega))]
  rw [show fM_linkAt (nI l) 1 M = _ from cM_linkAt hv (w := 1) (by omega) (by decide)]
  simp only [Option.bind_some]
  have skip : fM_takes_L53 (nI i) f (nI l) M = fM_takes_L6 (nI i) f (nI (l + 1)) M := by
    rw [fM_takes_L53_eq, fM_takes_L54_eq, if_pos rfl, nI_1]
  by_cases h1 : v (54 + 10 * l + 1) = nI i
  · rw [if_neg (fun q => q h1), cM_isOffered hv wf hl]
    simp only [Option.bind_some]
    by_cases h2 : pv_off v l = true
    · rw [if_pos h2, if_neg (by decide)]
      rw [show fM_offerOf (nI l) 0 M = _ from cM_offerOf hv wf (w := 0) hl (by decide)]
      simp only [Option.bind_some]
      rw [show fM_nodeAt (nI i) 4 M = _ from cM_nodeAt hv (w := 4) (by omega) (by decide)]
      simp only [Option.bind_some]
      rw [show pv_of v l 0 = v (6 + 8 * pv_fr v l + 0) from rfl]
      by_cases h3 : v (6 + 8 * pv_fr v l + 0) < v (6 + 8 * i + 4)
      · rw [if_neg (Int32.not_le.mpr h3), fM_takes_L54_eq, if_neg (by decide)]
        rcases hf with rfl | ⟨k, hk, rfl⟩
        · rw [if_pos rfl, nI_1]
          unfold pv_tk
          rw [if_pos ⟨h1, h2, h3, Or.inl rfl⟩]
        · rw [if_neg (nI_nNONE k (by omega)), if_pos (nI_pos' (by omega)), fM_takes_L79_eq, cM_isAhead hv wf hl (by omega)]
          simp only [Option.bind_some, nI_1]
          unfold pv_tk
          rw [nI_clp k (by omega)]
          by_cases h4 : pv_key v l < pv_key v k
          · rw [if_pos h4, if_neg (by decide), if_pos ⟨h1, h2, h3, Or.inr h4⟩]
          · rw [if_neg h4, if_pos rfl, if_neg (fun q => q.2.2.2.elim (nI_nNONE k (by omega)) h4)]
      · rw [if_pos (Int32.not_lt.mp h3), skip]
        unfold pv_tk
        rw [if_neg (fun q => h3 q.2.2.1)]
    · rw [if_neg h2, if_pos rfl, skip]
      unfold pv_tk
      rw [if_neg (fun q => h2 q.2.1)]
  · rw [if_pos h1, skip]
    unfold pv_tk
    rw [if_neg (fun q => h1 q.1)]
theorem cM_takes_L (hv : M.1 30 0 = v) (wf : pv_wf n m T v) {i : Nat} (hi : i < n) : ∀ (c l : Nat) (f : Int32), l + c = m → (f = -1001 ∨ ∃ k, k < l ∧ f = nI k) → fM_takes_L6 (nI i) f (nI l) M = some (mi_lp (pv_tk v i) c l f, M) := by
  have hm := wf.2.2.2.1
  intro c
  induction c with
  | zero =>
    intro l f hl hf
    rw [fM_takes_L6_eq]
    simp only [ix_5_154, Option.bind_some, Nat.zero_add, hv, wf.2.1]
    rw [if_pos (nI_le (by omega) (by omega))]
    rfl
  | succ c ih =>
    intro l f hl hf
    rw [cM_takes_1 hv wf hi (by omega) hf, ih (l + 1) _ (by omega) (pv_tk_ok hf)]
    rfl
theorem cM_takes (hv : M.1 30 0 = v) (wf : pv_wf n m T v) {i : Nat} (hi : i < n) : fM_takes (nI i) M = some (pv_take m v i, M) := by
  rw [fM_takes_eq]
  exact cM_takes_L hv wf hi m 0 (-1001) (by omega) (Or.inl rfl)
/-- a key's size -/
theorem pv_key_i (wf : pv_wf n m T v) {l : Nat} (hl : l < m) : ∃ q h r : Int, (pv_key v l).toInt = 100 * q + 10 * (h + 1) + r ∧ (v (6 + 8 * pv_fr v l + 0)).toInt = q ∧ (v (6 + 8 * pv_fr v l + 1)).toInt = h ∧ 0 ≤ q ∧ q ≤ 9 ∧ 0 ≤ h ∧ h ≤ 9 ∧ 0 ≤ r ∧ r ≤ 9 := by
  obtain ⟨ha, -⟩ := wf.fr hl
  obtain ⟨⟨x1, x2⟩, ⟨x3, x4⟩, -⟩ := wf.2.2.2.2.2.2.2.1 _ ha
  obtain ⟨x5, x6⟩ := (wf.2.2.2.2.2.2.2.2 l hl).2.2.1
  refine ⟨_, _, (v (54 + 10 * l + 2)).toInt, ?_, rfl, rfl, x1, x2, x3, x4, x5, x6⟩
  unfold pv_key
  generalize v (6 + 8 * pv_fr v l + 0) = a at *
  generalize v (6 + 8 * pv_fr v l + 1) = b at *
  generalize v (54 + 10 * l + 2) = c at *
  have c100 : (100 : Int32).toInt = 100 := by decide
  have c10 : (10 : Int32).toInt = 10 := by decide
  have c1 : (1 : Int32).toInt = 1 := by decide
  have e1 : (100 * a).toInt = 100 * a.toInt := by rw [i_mul (by rw [c100]; omega) (by rw [c100]; omega), c100]
  have e2 : (b + 1).toInt = b.toInt + 1 := by rw [i_add (by rw [c1]; omega) (by rw [c1]; omega), c1]
  have e3 : (10 * (b + 1)).toInt = 10 * (b.toInt + 1) := by rw [i_mul (by rw [c10, e2]; omega) (by rw [c10, e2]; omega), c10, e2]
  have e4 : (100 * a + 10 * (b + 1)).toInt = 100 * a.toInt + 10 * (b.toInt + 1) := by rw [i_add (by rw [e1, e3]; omega) (by rw [e1, e3]; omega), e1, e3]
  rw [i_add (by rw [e4]; omega) (by rw [e4]; omega), e4]
theorem pv_off_i (wf : pv_wf n m T v) {l : Nat} (h : pv_off v l = true) : (v (6 + 8 * pv_fr v l + 1)).toInt ≤ 8 := by
  unfold pv_off at h
  have h3 := (of_decide_eq_true h).2.2
  rw [i_lt] at h3
  have := wf.2.2.2.2.2.2.1.2
  omega
/-- what the class keeps for a link -/
def pv_kv (v : pV) (l : Nat) : Int32 := if pv_off v l = true then pv_key v l else 1000
theorem cN_best_1 {K : pV} (hv : M.1 0 j = v) (hK : M.1 2 j = K) (wf : pv_wf n m T v) (hk : ∀ l, l < m → K l = pv_kv v l) {i l : Nat} (hi : i < n) (hl : l < m) {f g : Int32} (hf : (f = -1001 ∧ g = 100 * v (6 + 8 * i + 4)) ∨ ∃ k, k < l ∧ f = nI k ∧ g = pv_key v k ∧ g < 100 * v (6 + 8 * i + 4)) :
    ∃ g', fN_bestLink_L19 j (nI i) f g (nI l) M = fN_bestLink_L19 j (nI i) (pv_tk v i l f) g' (nI (l + 1)) M ∧ ((pv_tk v i l f = -1001 ∧ g' = 100 * v (6 + 8 * i + 4)) ∨ ∃ k, k < l + 1 ∧ pv_tk v i l f = nI k ∧ g' = pv_key v k ∧ g' < 100 * v (6 + 8 * i + 4)) := by
  have hn := wf.2.2.1
  have hm := wf.2.2.2.1
  have hlt : (v (6 + 8 * i + 4)).toInt ≤ 9 ∧ 0 ≤ (v (6 + 8 * i + 4)).toInt := ⟨(wf.2.2.2.2.2.2.2.1 i hi).2.2.2.2.1.2, (wf.2.2.2.2.2.2.2.1 i hi).2.2.2.2.1.1⟩
  have c100 : (100 : Int32).toInt = 100 := by decide
  have eo : (100 * v (6 + 8 * i + 4)).toInt = 100 * (v (6 + 8 * i + 4)).toInt := by rw [i_mul (by rw [c100]; omega) (by rw [c100]; omega), c100]
  have hg : g.toInt ≤ 900 := by
    rcases hf with ⟨-, e⟩ | ⟨k, -, -, -, h⟩
    · rw [e, eo]; omega
    · rw [i_lt, eo] at h; omega
  rw [fN_bestLink_L19_eq, hv, wf.2.1, if_neg (nI_ge hl (by omega))]
  simp only [mi_ix_n (by omega : l < 10) (by decide), ix_1_10, Option.bind_some, Nat.zero_add, hK, hk l hl, nI_1]
  have keep : (f = -1001 ∧ g = 100 * v (6 + 8 * i + 4)) ∨ ∃ k, k < l + 1 ∧ f = nI k ∧ g = pv_key v k ∧ g < 100 * v (6 + 8 * i + 4) := by
    rcases hf with h | ⟨k, h1, h2⟩
    · exact Or.inl h
    · exact Or.inr ⟨k, by omega, h2⟩
  by_cases h1 : v (54 + 10 * l + 1) = nI i
  · rw [if_neg (fun q => q h1)]
    by_cases h2 : pv_off v l = true
    · have hkv : pv_kv v l = pv_key v l := by unfold pv_kv; rw [if_pos h2]
      rw [hkv]
      obtain ⟨q, h, r, k1, k2, k3, b1, b2, b3, b4, b5, b6⟩ := pv_key_i wf hl
      have hh := pv_off_i wf h2
      have hq : (pv_key v l < 100 * v (6 + 8 * i + 4)) ↔ v (6 + 8 * pv_fr v l + 0) < v (6 + 8 * i + 4) := by
        rw [i_lt, i_lt, k1, eo, k2]; omega
      have hcond : pv_key v l < g ↔ (v (6 + 8 * pv_fr v l + 0) < v (6 + 8 * i + 4) ∧ (f = -1001 ∨ pv_key v l < pv_key v f.toNatClampNeg)) := by
        rcases hf with ⟨e1, e2⟩ | ⟨k, hk1, e1, e2, e3⟩
        · rw [e2, hq]; exact ⟨fun z => ⟨z, Or.inl e1⟩, fun z => z.1⟩
        · have hne : ¬ f = -1001 := by rw [e1]; exact nI_nNONE k (by omega)
          rw [e1, nI_clp k (by omega), ← e2]
          refine ⟨fun z => ⟨hq.mp ?_, Or.inr z⟩, fun z => z.2.elim (fun w => absurd (e1.trans w) hne) id⟩
          rw [i_lt] at z e3 ⊢
          omega
      by_cases h3 : pv_key v l < g
      · rw [if_neg (Int32.not_le.mpr h3)]
        have htk : pv_tk v i l f = nI l := by unfold pv_tk; rw [if_pos ⟨h1, h2, hcond.mp h3⟩]
        refine ⟨pv_key v l, by rw [htk], Or.inr ⟨l, by omega, htk, rfl, hq.mpr (hcond.mp h3).1⟩⟩
      · rw [if_pos (Int32.not_lt.mp h3)]
        have htk : pv_tk v i l f = f := by unfold pv_tk; rw [if_neg (fun z => h3 (hcond.mpr z.2.2))]
        rw [htk]
        exact ⟨g, rfl, keep⟩
    · have hkv : pv_kv v l = 1000 := by unfold pv_kv; rw [if_neg h2]
      rw [hkv, if_pos (by rw [i_le]; have : (1000 : Int32).toInt = 1000 := by decide
                          omega)]
      have htk : pv_tk v i l f = f := by unfold pv_tk; rw [if_neg (fun z => h2 z.2.1)]
      rw [htk]
      exact ⟨g, rfl, keep⟩
  · rw [if_pos h1]
    have htk : pv_tk v i l f = f := by unfold pv_tk; rw [if_neg (fun z => h1 z.1)]
    rw [htk]
    exact ⟨g, rfl, keep⟩
theorem cN_best_L {K : pV} (hv : M.1 0 j = v) (hK : M.1 2 j = K) (wf : pv_wf n m T v) (hk : ∀ l, l < m → K l = pv_kv v l) {i : Nat} (hi : i < n) : ∀ (c l : Nat) (f g : Int32), l + c = m → ((f = -1001 ∧ g = 100 * v (6 + 8 * i + 4)) ∨ ∃ k, k < l ∧ f = nI k ∧ g = pv_key v k ∧ g < 100 * v (6 + 8 * i + 4)) → fN_bestLink_L19 j (nI i) f g (nI l) M = some (mi_lp (pv_tk v i) c l f, M) := by
  have hm := wf.2.2.2.1
  intro c
  induction c with
  | zero =>
    intro l f g hl hf
    rw [fN_bestLink_L19_eq, hv, wf.2.1, if_pos (nI_le (by omega) (by omega))]
    rfl
  | succ c ih =>
    intro l f g hl hf
    obtain ⟨g', e, h⟩ := cN_best_1 hv hK wf hk hi (by omega : l < m) hf
    rw [e, ih (l + 1) _ g' (by omega) h]
    rfl
theorem cN_bestLink {K : pV} (hv : M.1 0 j = v) (hK : M.1 2 j = K) (wf : pv_wf n m T v) (hk : ∀ l, l < m → K l = pv_kv v l) {i : Nat} (hi : i < n) : fN_bestLink j (nI i) M = some (pv_take m v i, M) := by
  have hn := wf.2.2.1
  rw [fN_bestLink_eq]
  simp only [mi_ix_n (by omega : i < 6) (by decide), ix_4_8, Option.bind_some, hv]
  exact cN_best_L hv hK wf hk hi m 0 (-1001) _ (by omega) (Or.inl ⟨rfl, rfl⟩)
end PC
