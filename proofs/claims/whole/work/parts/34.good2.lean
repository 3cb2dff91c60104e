section CG
variable {n m T : Nat} {v w : pV}
/-- every store set to x -/
theorem fs_at (x : Int32) : ∀ (c l : Nat) (u : pV), (∀ k, l ≤ k → k < l + c → mi_lp (pv_fs x) c l u (54 + 10 * k + 4) = x ∧ mi_lp (pv_fs x) c l u (54 + 10 * k + 5) = 0 ∧ mi_lp (pv_fs x) c l u (54 + 10 * k + 6) = 0) ∧ (∀ k f, f < 4 → mi_lp (pv_fs x) c l u (54 + 10 * k + f) = u (54 + 10 * k + f)) ∧ (∀ p, p < 54 + 10 * l → mi_lp (pv_fs x) c l u p = u p)
  | 0, l, u => ⟨fun k h1 h2 => by omega, fun _ _ _ => rfl, fun _ _ => rfl⟩
  | c + 1, l, u => by
    obtain ⟨a, b, d⟩ := fs_at x c (l + 1) (pv_fs x l u)
    rw [mi_lp_S]
    refine ⟨fun k h1 h2 => ?_, fun k f hf => ?_, fun p hp => ?_⟩
    · by_cases e : k = l
      · subst e
        rw [d _ (by omega), d _ (by omega), d _ (by omega)]
        exact pv_st_456
      · exact a k (by omega) (by omega)
    · rw [b k f hf]
      unfold pv_fs pv_st
      rw [if_neg (by omega)]
    · rw [d p (by omega)]
      exact pv_st_ne (by omega)
theorem gd_sets (wf : pv_wf n m T v) (h : pv_eq n m v w) (k x : Int32) : pv_good T v w (pv_sets m v k x) (pv_sets m w k x) := by
  have hn := wf.2.2.1
  have hm := wf.2.2.2.1
  unfold pv_sets
  by_cases hc : pv_sok k x = true
  · rw [if_pos hc, if_pos hc]
    unfold pv_sok at hc
    simp only [Bool.or_eq_true, Bool.and_eq_true, decide_eq_true_eq, pv_in_iff] at hc
    obtain ⟨x1, x2, x3, x4, x5, x6, x7, wN, wL⟩ := wf
    rcases hc with ⟨rfl, hx⟩ | ⟨rfl, hx⟩ | ⟨rfl, hx⟩
    · have c1 : (4 : Int32).toInt = 4 := by decide
      have c2 : (64 : Int32).toInt = 64 := by decide
      rw [c1, c2] at hx
      rw [if_pos rfl, if_pos rfl]
      obtain ⟨f1, f2, f3⟩ := fs_at x m 0 (upd v 0 x)
      refine ⟨h.lo (by decide), Or.inr ⟨by (show 0 ≤ (v 0).toInt); omega, n, m, ?_, cg_fs x m 0 _ _ (h.up rfl)⟩⟩
      show pv_wf n m (T + 2000) (mi_lp (pv_fs x) m 0 (upd v 0 x))
      have z0 : mi_lp (pv_fs x) m 0 (upd v 0 x) 0 = x := by rw [f3 0 (by decide), upd_same]
      have lo : ∀ p, p < 54 → p ≠ 0 → mi_lp (pv_fs x) m 0 (upd v 0 x) p = v p := fun p hp h0 => by rw [f3 p (by omega), upd_ne h0]
      refine ⟨by rw [lo 4 (by decide) (by decide)]; exact x1, by rw [lo 5 (by decide) (by decide)]; exact x2, x3, x4, by rw [z0]; exact hx, by rw [lo 1 (by decide) (by decide)]; exact x6, by rw [lo 2 (by decide) (by decide)]; exact x7, fun i hi => pv_wfN_c (fun f hf => lo _ (by omega) (by omega)) (wN i hi), fun l hl => ?_⟩
      obtain ⟨y1, y2, y3, y4, y5, y6, y7, y8⟩ := wL l hl
      obtain ⟨s4, s5, s6⟩ := f1 l (by omega) (by omega)
      have rd : ∀ f, f < 4 → mi_lp (pv_fs x) m 0 (upd v 0 x) (54 + 10 * l + f) = v (54 + 10 * l + f) := fun f hf => by rw [f2 l f hf, upd_ne (by omega)]
      unfold pv_wfL
      rw [z0, s4, s5, s6, rd 0 (by decide), rd 1 (by decide), rd 2 (by decide), rd 3 (by decide), k_0]
      exact ⟨y1, y2, y3, y4, by omega, by omega, by omega, by omega⟩
    · have c2 : (128 : Int32).toInt = 128 := by decide
      rw [k_0, c2] at hx
      rw [if_neg (by decide), if_neg (by decide)]
      refine ⟨h.lo (by decide), Or.inr ⟨by (show 0 ≤ (v 1).toInt); omega, n, m, ?_, h.up rfl⟩⟩
      show pv_wf n m (T + 2000) (upd v 1 x)
      have lo : ∀ p, p ≠ 1 → upd v 1 x p = v p := fun p hp => upd_ne hp
      exact ⟨by rw [lo 4 (by decide)]; exact x1, by rw [lo 5 (by decide)]; exact x2, x3, x4, by rw [lo 0 (by decide)]; exact x5, by rw [upd_same]; exact hx, by rw [lo 2 (by decide)]; exact x7, fun i hi => pv_wfN_c (fun f hf => lo _ (by omega)) (wN i hi), fun l hl => pv_wfL_c (lo 0 (by decide)) (fun f hf => lo _ (by omega)) (by omega) (wL l hl)⟩
    · have c2 : (9 : Int32).toInt = 9 := by decide
      rw [k_1, c2] at hx
      rw [if_neg (by decide), if_neg (by decide)]
      refine ⟨h.lo (by decide), Or.inr ⟨by (show 0 ≤ (v 2).toInt); omega, n, m, ?_, h.up rfl⟩⟩
      show pv_wf n m (T + 2000) (upd v 2 x)
      have lo : ∀ p, p ≠ 2 → upd v 2 x p = v p := fun p hp => upd_ne hp
      exact ⟨by rw [lo 4 (by decide)]; exact x1, by rw [lo 5 (by decide)]; exact x2, x3, x4, by rw [lo 0 (by decide)]; exact x5, by rw [lo 1 (by decide)]; exact x6, by rw [upd_same]; exact hx, fun i hi => pv_wfN_c (fun f hf => lo _ (by omega)) (wN i hi), fun l hl => pv_wfL_c (lo 0 (by decide)) (fun f hf => lo _ (by omega)) (by omega) (wL l hl)⟩
  · rw [if_neg hc, if_neg hc]
    exact ⟨rfl, Or.inl ⟨Or.inl rfl, rfl, rfl⟩⟩
/-- an order, by its letter -/
def pv_op (n m : Nat) (v : pV) (L a b c : Int32) : Int32 × pV := if L = 110 then pv_node n v a b else if L = 108 then pv_link n m v a b c else if L = 111 then pv_owns n v a b c else if L = 117 then pv_turn m v a else if L = 115 then pv_sets m v a b else if L = 99 then pv_clear m v a else if L = 107 then pv_looks n m v a else pv_ticks n m v a
def pv_let (L : Int32) : Prop := L = 110 ∨ L = 108 ∨ L = 111 ∨ L = 117 ∨ L = 115 ∨ L = 99 ∨ L = 107 ∨ L = 116
theorem gd_op (wf : pv_wf n m T v) (h : pv_eq n m v w) (hT : T + 2000 < 2000000000) (L a b c : Int32) : pv_good T v w (pv_op n m v L a b c) (pv_op n m w L a b c) := by
  unfold pv_op
  split
  · exact gd_node wf h _ _
  · split
    · exact gd_link wf h _ _ _
    · split
      · exact gd_owns wf h _ _ _
      · split
        · exact gd_turn wf h _
        · split
          · exact gd_sets wf h _ _
          · split
            · exact gd_clear wf h (by omega) _
            · split
              · exact gd_looks wf h _
              · exact gd_ticks wf h hT _
theorem cN_carryOut {j : Nat} {M : mM} (hv : M.1 0 j = v) (wf : pv_wf n m T v) (hT : T + 2000 < 2000000000) {L : Int32} (hL : pv_let L) (a b c : Int32) : ∃ K F : pV, fN_carryOut j L a b c M = some ((pv_op n m v L a b c).1, mi_pv (mi_pv (mi_pv M 2 j K) 1 j F) 0 j (pv_op n m v L a b c).2) := by
  have hn := wf.2.2.1
  have hm := wf.2.2.2.1
  have triv : ∀ q : Int32 × pV, some (q.1, mi_pv M 0 j q.2) = some (q.1, mi_pv (mi_pv (mi_pv M 2 j (M.1 2 j)) 1 j (M.1 1 j)) 0 j q.2) := fun q => by rw [mi_pv_self, mi_pv_self]
  rw [fN_carryOut_eq]
  rcases hL with rfl | rfl | rfl | rfl | rfl | rfl | rfl | rfl
  · refine ⟨M.1 2 j, M.1 1 j, ?_⟩
    rw [← triv, cN_addNode hv wf.1 hn]
    rfl
  · refine ⟨M.1 2 j, M.1 1 j, ?_⟩
    rw [← triv, cN_addLink hv wf.1 wf.2.1 hn hm]
    rfl
  · refine ⟨M.1 2 j, M.1 1 j, ?_⟩
    rw [← triv, cN_tellOwn hv wf]
    rfl
  · refine ⟨M.1 2 j, M.1 1 j, ?_⟩
    rw [← triv, cN_turnLink hv wf.2.1 hm]
    rfl
  · refine ⟨M.1 2 j, M.1 1 j, ?_⟩
    rw [← triv, cN_tellSetting hv wf.2.1 hm]
    rfl
  · refine ⟨M.1 2 j, M.1 1 j, ?_⟩
    rw [← triv, cN_clearLink hv wf.2.1 hm]
    rfl
  · obtain ⟨K, F, e⟩ := cN_lookOften hv wf a
    refine ⟨K, F, ?_⟩
    rw [e]
    rfl
  · refine ⟨M.1 2 j, M.1 1 j, ?_⟩
    rw [← triv, cN_tickOften hv wf hT]
    rfl
end CG
