section PC
variable {n m T : Nat} {v : pV} {j : Nat} {M : mM}
theorem cN_cntL (hv : M.1 0 j = v) (wf : pv_wf n m T v) (a : Int32) : ∀ (c k : Nat) (x : Int32), k + c = n → fN_tellOwn_L37 j a x (nI k) M = some (mi_lp (fun k c => if pv_src v k = a then c + 1 else c) c k x, M) := by
  have hn := wf.2.2.1
  intro c
  induction c with
  | zero =>
    intro k x hk
    rw [fN_tellOwn_L37_eq, hv, wf.1, if_pos (nI_le (by omega) (by omega))]
    rfl
  | succ c ih =>
    intro k x hk
    rw [fN_tellOwn_L37_eq, hv, wf.1, if_neg (nI_ge (by omega) (by omega)), cN_nodeAhead hv wf (by omega)]
    simp only [Option.bind_some, nI_1]
    rw [mi_lp]
    by_cases h : pv_src v k = a
    · rw [if_neg (fun z => z h), ih (k + 1) _ (by omega), if_pos h]
    · rw [if_pos h, ih (k + 1) _ (by omega), if_neg h]
theorem cM_cntL (hv : M.1 30 0 = v) (wf : pv_wf n m T v) (a : Int32) : ∀ (c k : Nat) (x : Int32), k + c = n → fM_doOwns_L33 a x (nI k) M = some (mi_lp (fun k c => if pv_src v k = a then c + 1 else c) c k x, M) := by
  have hn := wf.2.2.1
  intro c
  induction c with
  | zero =>
    intro k x hk
    rw [fM_doOwns_L33_eq]
    simp only [ix_4_154, Option.bind_some, Nat.zero_add, hv, wf.1]
    rw [if_pos (nI_le (by omega) (by omega))]
    rfl
  | succ c ih =>
    intro k x hk
    rw [fM_doOwns_L33_eq]
    simp only [ix_4_154, Option.bind_some, Nat.zero_add, hv, wf.1]
    rw [if_neg (nI_ge (by omega) (by omega)), cM_sourceOf hv wf (by omega)]
    simp only [Option.bind_some, nI_1, Int32.add_zero]
    rw [mi_lp]
    by_cases h : pv_src v k = a
    · rw [if_neg (fun z => z h), ih (k + 1) _ (by omega), if_pos h]
    · rw [if_pos h, ih (k + 1) _ (by omega), if_neg h]
theorem cN_tellOwn (hv : M.1 0 j = v) (wf : pv_wf n m T v) (a q r : Int32) : fN_tellOwn j a q r M = some ((pv_owns n v a q r).1, mi_pv M 0 j (pv_owns n v a q r).2) := by
  have hn := wf.2.2.1
  have bad : mi_pv M 0 j v = M := by rw [← hv, mi_pv_self]
  rw [fN_tellOwn_eq, cN_hasNode hv wf.1 hn]
  simp only [Option.bind_some, cN_isOwn]
  unfold pv_owns
  cases h1 : pv_isn n a with
  | false => simp [pv_b, bad]
  | true =>
    cases h2 : pv_iso q r with
    | false => simp [pv_b, bad]
    | true =>
      obtain ⟨i, hi, rfl⟩ := pv_isn_of h1 (by omega)
      rw [pv_bt rfl, if_neg (show ¬ (1 : Int32) = 0 by decide), if_pos (show ¬ (1 : Int32) = 0 by decide), if_pos (by rfl), mi_ix_n (by omega : i < 6) (by decide), Option.bind_some, cN_startNode hv, Option.bind_some, nI_clp i (by omega)]
      have := cN_cntL (M := mi_pv M 0 j (pv_sn v i q r)) (j := j) (mi_pv_at _ _ _ _) (pv_sn_wf wf hi h2) (nI i) n 0 0 (by omega)
      rw [show (0 : Int32) = nI 0 from rfl] at this ⊢
      exact this
theorem cM_doOwns (hv : M.1 30 0 = v) (wf : pv_wf n m T v) (a q r : Int32) : fM_doOwns a q r M = some ((pv_owns n v a q r).1, mi_pv M 30 0 (pv_owns n v a q r).2) := by
  have hn := wf.2.2.1
  have bad : mi_pv M 30 0 v = M := by rw [← hv, mi_pv_self]
  rw [fM_doOwns_eq, cM_isNode hv wf.1 hn]
  simp only [Option.bind_some, cM_isOwn]
  unfold pv_owns
  cases h1 : pv_isn n a with
  | false => simp [pv_b, bad]
  | true =>
    cases h2 : pv_iso q r with
    | false => simp [pv_b, bad]
    | true =>
      obtain ⟨i, hi, rfl⟩ := pv_isn_of h1 (by omega)
      rw [pv_bt rfl, if_neg (show ¬ (1 : Int32) = 0 by decide), if_pos (show ¬ (1 : Int32) = 0 by decide), if_pos (by rfl), cM_own hv (by omega), Option.bind_some, nI_clp i (by omega)]
      have := cM_cntL (M := mi_pv M 30 0 (pv_sn v i q r)) (mi_pv_at _ _ _ _) (pv_sn_wf wf hi h2) (nI i) n 0 0 (by omega)
      rw [show (0 : Int32) = nI 0 from rfl] at this ⊢
      exact this
theorem cN_turnLink (hv : M.1 0 j = v) (h5 : v 5 = nI m) (hm : m ≤ 10) (a : Int32) : fN_turnLink j a M = some ((pv_turn m v a).1, mi_pv M 0 j (pv_turn m v a).2) := by
  have bad : mi_pv M 0 j v = M := by rw [← hv, mi_pv_self]
  rw [fN_turnLink_eq, cN_hasLink hv h5 hm]
  simp only [Option.bind_some]
  unfold pv_turn
  cases h1 : pv_isn m a with
  | false => simp [pv_b, bad]
  | true =>
    obtain ⟨l, hl, rfl⟩ := pv_isn_of h1 (by omega)
    rw [pv_bt rfl, if_pos (show ¬ (1 : Int32) = 0 by decide), if_pos (by rfl)]
    simp only [mi_ix_n (by omega : l < 10) (by decide), ix_3_10, Option.bind_some, mi_set_pv, mi_pv_at, hv, upd_same, nI_clp l (by omega)]
theorem cM_doTurns (hv : M.1 30 0 = v) (h5 : v 5 = nI m) (hm : m ≤ 10) (a : Int32) : fM_doTurns a M = some ((pv_turn m v a).1, mi_pv M 30 0 (pv_turn m v a).2) := by
  have bad : mi_pv M 30 0 v = M := by rw [← hv, mi_pv_self]
  rw [fM_doTurns_eq, cM_isLink hv h5 hm]
  simp only [Option.bind_some]
  unfold pv_turn
  cases h1 : pv_isn m a with
  | false => simp [pv_b, bad]
  | true =>
    obtain ⟨l, hl, rfl⟩ := pv_isn_of h1 (by omega)
    rw [pv_bt rfl, if_pos (show ¬ (1 : Int32) = 0 by decide), if_pos (by rfl)]
    rw [show fM_linkAt (nI l) 3 M = _ from cM_linkAt hv (w := 3) (by omega) (by decide)]
    simp only [Option.bind_some]
    rw [show ∀ x, fM_putLink (nI l) 3 x M = _ from fun x => cM_putLink hv (w := 3) (by omega) (by decide) x]
    simp only [Option.bind_some]
    rw [show ∀ u : pV, fM_linkAt (nI l) 3 (mi_pv M 30 0 u) = _ from fun u => cM_linkAt (mi_pv_at _ _ _ _) (w := 3) (by omega) (by decide)]
    simp only [Option.bind_some, upd_same, nI_clp l (by omega)]
theorem cN_clearLink (hv : M.1 0 j = v) (h5 : v 5 = nI m) (hm : m ≤ 10) (a : Int32) : fN_clearLink j a M = some ((pv_clear m v a).1, mi_pv M 0 j (pv_clear m v a).2) := by
  have bad : mi_pv M 0 j v = M := by rw [← hv, mi_pv_self]
  rw [fN_clearLink_eq, cN_hasLink hv h5 hm]
  simp only [Option.bind_some]
  unfold pv_clear
  cases h1 : pv_isn m a with
  | false => simp [pv_b, bad]
  | true =>
    obtain ⟨l, hl, rfl⟩ := pv_isn_of h1 (by omega)
    rw [pv_bt rfl, if_pos (show ¬ (1 : Int32) = 0 by decide), if_pos (by rfl)]
    simp only [mi_ix_n (by omega : l < 10) (by decide), ix_5_10, ix_6_10, ix_4_10, Option.bind_some, hv, nI_clp l (by omega)]
    rw [cN_startStore hv]
    rfl
theorem cM_doClears (hv : M.1 30 0 = v) (h5 : v 5 = nI m) (hm : m ≤ 10) (a : Int32) : fM_doClears a M = some ((pv_clear m v a).1, mi_pv M 30 0 (pv_clear m v a).2) := by
  have bad : mi_pv M 30 0 v = M := by rw [← hv, mi_pv_self]
  rw [fM_doClears_eq, cM_isLink hv h5 hm]
  simp only [Option.bind_some]
  unfold pv_clear
  cases h1 : pv_isn m a with
  | false => simp [pv_b, bad]
  | true =>
    obtain ⟨l, hl, rfl⟩ := pv_isn_of h1 (by omega)
    rw [pv_bt rfl, if_pos (show ¬ (1 : Int32) = 0 by decide), if_pos (by rfl)]
    rw [show fM_linkAt (nI l) 5 M = _ from cM_linkAt hv (w := 5) (by omega) (by decide)]
    simp only [Option.bind_some]
    rw [show fM_linkAt (nI l) 6 M = _ from cM_linkAt hv (w := 6) (by omega) (by decide)]
    simp only [Option.bind_some]
    rw [cM_reset hv (by omega)]
    simp only [Option.bind_some, nI_clp l (by omega)]
theorem cN_fsL (x : Int32) (y : Int32) : ∀ (c l : Nat) (v : pV) (M : mM), M.1 0 j = v → v 5 = nI m → m ≤ 10 → l + c = m → fN_tellSetting_L51 j x y (nI l) M = some (y, mi_pv M 0 j (mi_lp (pv_fs x) c l v)) := by
  intro c
  induction c with
  | zero =>
    intro l v M hv h5 hm hl
    rw [fN_tellSetting_L51_eq, hv, h5, if_pos (nI_le (by omega) (by omega)), show mi_lp (pv_fs x) 0 l v = v from rfl, ← hv, mi_pv_self]
  | succ c ih =>
    intro l v M hv h5 hm hl
    rw [fN_tellSetting_L51_eq, hv, h5, if_neg (nI_ge (by omega) (by omega)), mi_ix_n (by omega : l < 10) (by decide), Option.bind_some, cN_startStore hv, Option.bind_some, nI_1, ih (l + 1) (pv_st v l x) _ (mi_pv_at _ _ _ _) (by rw [pv_st_ne (by omega)]; exact h5) hm (by omega), mi_pv_pv]
    rfl
theorem cM_fsL (x : Int32) (y : Int32) : ∀ (c l : Nat) (v : pV) (M : mM), M.1 30 0 = v → v 5 = nI m → v 0 = x → m ≤ 10 → l + c = m → fM_doSets_L77 0 y (nI l) M = some (y, mi_pv M 30 0 (mi_lp (pv_fs x) c l v)) := by
  intro c
  induction c with
  | zero =>
    intro l v M hv h5 h0 hm hl
    rw [fM_doSets_L77_eq]
    simp only [ix_5_154, Option.bind_some, Nat.zero_add, hv, h5]
    rw [if_pos (nI_le (by omega) (by omega)), show mi_lp (pv_fs x) 0 l v = v from rfl, ← hv, mi_pv_self]
  | succ c ih =>
    intro l v M hv h5 h0 hm hl
    rw [fM_doSets_L77_eq]
    simp only [ix_5_154, Option.bind_some, Nat.zero_add, hv, h5]
    rw [if_neg (nI_ge (by omega) (by omega)), if_neg (by decide), cM_fill hv (by omega), Option.bind_some, nI_1, h0, ih (l + 1) (pv_st v l x) _ (mi_pv_at _ _ _ _) (by rw [pv_st_ne (by omega)]; exact h5) (by rw [pv_st_ne (by omega)]; exact h0) hm (by omega), mi_pv_pv]
    rfl
theorem cN_tellSetting (hv : M.1 0 j = v) (h5 : v 5 = nI m) (hm : m ≤ 10) (k x : Int32) : fN_tellSetting j k x M = some ((pv_sets m v k x).1, mi_pv M 0 j (pv_sets m v k x).2) := by
  have bad : mi_pv M 0 j v = M := by rw [← hv, mi_pv_self]
  rw [fN_tellSetting_eq, cX_isWithin]
  simp only [Option.bind_some]
  unfold pv_sets
  have k0 : (0 : Int32).toInt = 0 := by decide
  have k2 : (2 : Int32).toInt = 2 := by decide
  by_cases h1 : pv_in k 0 2 = true
  · have hk : k = 0 ∨ k = 1 ∨ k = 2 := by
      rw [pv_in_iff, k0, k2] at h1
      have : k.toInt = 0 ∨ k.toInt = 1 ∨ k.toInt = 2 := by omega
      rcases this with e | e | e
      · exact Or.inl (by rw [i_eq, e]; rfl)
      · exact Or.inr (Or.inl (by rw [i_eq, e]; rfl))
      · exact Or.inr (Or.inr (by rw [i_eq, e]; rfl))
    rw [pv_bt h1, if_neg (by decide)]
    rcases hk with rfl | rfl | rfl
    · simp only [ix_0_3, Option.bind_some, cX_isWithin, mi_set_pv, hv, Nat.zero_add]
      rw [show mi_c60 0 = 4 from rfl, show mi_c61 0 = 64 from rfl]
      cases h2 : pv_in x 4 64 with
      | false => simp [pv_b, bad, pv_sok, h2]
      | true =>
        rw [pv_bt rfl, if_pos (by decide), if_neg (by decide), if_pos (by simp [pv_sok, h2]), if_pos trivial]
        rw [show (0 : Int32) = nI 0 from rfl, cN_fsL x (v 0) m 0 (upd v 0 x) _ (mi_pv_at _ _ _ _) (by rw [upd_ne (by decide)]; exact h5) hm (by omega), mi_pv_pv]
        rfl
    · simp only [ix_1_3, Option.bind_some, cX_isWithin, mi_set_pv, hv, Nat.zero_add]
      rw [show mi_c60 1 = 0 from rfl, show mi_c61 1 = 128 from rfl]
      cases h2 : pv_in x 0 128 with
      | false => simp [pv_b, bad, pv_sok, h2]
      | true =>
        rw [pv_bt rfl, if_pos (by decide), if_pos (by decide), if_pos (by simp [pv_sok, h2]), if_neg (by decide)]
        rfl
    · simp only [ix_2_3, Option.bind_some, cX_isWithin, mi_set_pv, hv, Nat.zero_add]
      rw [show mi_c60 2 = 1 from rfl, show mi_c61 2 = 9 from rfl]
      cases h2 : pv_in x 1 9 with
      | false => simp [pv_b, bad, pv_sok, h2]
      | true =>
        rw [pv_bt rfl, if_pos (by decide), if_pos (by decide), if_pos (by simp [pv_sok, h2]), if_neg (by decide)]
        rfl
  · have hk : ¬ k = 0 ∧ ¬ k = 1 ∧ ¬ k = 2 := ⟨fun e => h1 (by rw [e]; rfl), fun e => h1 (by rw [e]; rfl), fun e => h1 (by rw [e]; rfl)⟩
    rw [pv_bf h1, if_pos rfl, if_neg (by simp [pv_sok, hk]), bad]
theorem cM_doSets (hv : M.1 30 0 = v) (h5 : v 5 = nI m) (hm : m ≤ 10) (k x : Int32) : fM_doSets k x M = some ((pv_sets m v k x).1, mi_pv M 30 0 (pv_sets m v k x).2) := by
  have bad : mi_pv M 30 0 v = M := by rw [← hv, mi_pv_self]
  rw [fM_doSets_eq]
  simp only [cM_in, Option.bind_some]
  unfold pv_sets
  have fin : ∀ (i : Nat) (u : pV), i < 3 → ¬ i = 0 → fM_doSets_L77 (nI i) (v i) 0 (mi_pv M 30 0 u) = some (v i, mi_pv M 30 0 u) := by
    intro i u hi h0
    rw [fM_doSets_L77_eq]
    simp only [ix_5_154, Option.bind_some]
    by_cases h : (mi_pv M 30 0 u).1 30 0 (0 + 5) ≤ 0
    · rw [if_pos h]
    · rw [if_neg h, if_pos (show ¬ nI i = 0 from fun e => h0 (nI_ext (by omega) (by decide) (show nI i = nI 0 from e)))]
  by_cases e0 : k = 0
  · subst e0
    rw [if_neg (fun z => z rfl), fM_doSets_L50_eq]
    cases h2 : pv_in x 4 64 with
    | false => simp [pv_b, bad, pv_sok, h2]
    | true =>
      rw [pv_bt rfl, if_pos (by decide), if_pos (by simp [pv_sok, h2]), if_pos rfl]
      simp only [ix_0_154, Option.bind_some, Nat.zero_add, mi_set_pv, hv]
      have := cM_fsL (m := m) x (v 0) m 0 (upd v 0 x) (mi_pv M 30 0 (upd v 0 x)) (mi_pv_at _ _ _ _) (by rw [upd_ne (by decide)]; exact h5) (upd_same _ _ _) hm (by omega)
      rw [mi_pv_pv] at this
      exact this
  · rw [if_pos e0]
    by_cases e1 : k = 1
    · subst e1
      rw [if_neg (fun z => z rfl), fM_doSets_L50_eq]
      cases h2 : pv_in x 0 128 with
      | false => simp [pv_b, bad, pv_sok, h2]
      | true =>
        rw [pv_bt rfl, if_pos (by decide), if_pos (by simp [pv_sok, h2]), if_neg (by decide)]
        simp only [ix_1_154, Option.bind_some, Nat.zero_add, mi_set_pv, hv]
        exact fin 1 _ (by decide) (by decide)
    · rw [if_pos e1]
      by_cases e2 : k = 2
      · subst e2
        rw [if_neg (fun z => z rfl)]
        cases h2 : pv_in x 1 9 with
        | false =>
          rw [if_pos (by decide), fM_doSets_L49_eq, fM_doSets_L50_eq]
          simp [pv_b, bad, pv_sok, h2]
        | true =>
          rw [pv_bt rfl, if_neg (by decide), fM_doSets_L50_eq, if_pos (by decide), if_pos (by simp [pv_sok, h2]), if_neg (by decide)]
          simp only [ix_2_154, Option.bind_some, Nat.zero_add, mi_set_pv, hv]
          exact fin 2 _ (by decide) (by decide)
      · rw [if_pos e2, fM_doSets_L49_eq, fM_doSets_L50_eq, if_neg (by decide), if_neg (by simp [pv_sok, e0, e1, e2]), bad]
end PC
