/-! PURE: each order leaves a net, or refuses; on vectors that agree it answers alike -/
def pv_good (T : Nat) (v w : pV) (r r' : Int32 × pV) : Prop := r.1 = r'.1 ∧ (((r.1 = -1002 ∨ r.1 = -1004) ∧ r.2 = v ∧ r'.2 = w) ∨ (0 ≤ r.1.toInt ∧ ∃ n' m', pv_wf n' m' (T + 2000) r.2 ∧ pv_eq n' m' r.2 r'.2))
theorem k_0 : (0 : Int32).toInt = 0 := by decide
theorem k_1 : (1 : Int32).toInt = 1 := by decide
/-- a count that grows by 0 or 1 a step -/
theorem lp_cnt {F : Nat → Int32 → Int32} (hF : ∀ i c, F i c = c ∨ F i c = c + 1) : ∀ (c i : Nat) (x : Int32), 0 ≤ x.toInt → x.toInt + c < 1000000 → 0 ≤ (mi_lp F c i x).toInt ∧ (mi_lp F c i x).toInt ≤ x.toInt + c
  | 0, _, _, h0, _ => ⟨h0, by simp [mi_lp]⟩
  | c + 1, i, x, h0, h1 => by
    have e1 : (x + 1).toInt = x.toInt + 1 := by rw [i_add (by rw [k_1]; omega) (by rw [k_1]; omega), k_1]
    rw [mi_lp_S]
    rcases hF i x with e | e <;> rw [e]
    · obtain ⟨a, b⟩ := lp_cnt hF c (i + 1) x h0 (by omega); exact ⟨a, by omega⟩
    · obtain ⟨a, b⟩ := lp_cnt hF c (i + 1) (x + 1) (by omega) (by omega); exact ⟨a, by omega⟩
theorem slips_cnt : ∀ (c l : Nat) (q : pV × Int32), 0 ≤ q.2.toInt → q.2.toInt + c < 1000000 → 0 ≤ (mi_lp pv_slips c l q).2.toInt ∧ (mi_lp pv_slips c l q).2.toInt ≤ q.2.toInt + c
  | 0, _, _, h0, _ => ⟨h0, by simp [mi_lp]⟩
  | c + 1, l, q, h0, h1 => by
    have e1 : (q.2 + 1).toInt = q.2.toInt + 1 := by rw [i_add (by rw [k_1]; omega) (by rw [k_1]; omega), k_1]
    have e0 : (q.2 + 0).toInt = q.2.toInt := by rw [Int32.add_zero]
    rw [mi_lp_S]
    have hs : (pv_slips l q).2 = q.2 + (pv_slip l q.1).2 := rfl
    rcases pv_slip_56 (v := q.1) (l := l) with ⟨e, -⟩ | ⟨e, -⟩ | ⟨e, -⟩ <;> rw [e] at hs
    · obtain ⟨a, b⟩ := slips_cnt c (l + 1) (pv_slips l q) (by rw [hs, e0]; exact h0) (by rw [hs, e0]; omega); rw [hs, e0] at b; exact ⟨a, by omega⟩
    · obtain ⟨a, b⟩ := slips_cnt c (l + 1) (pv_slips l q) (by rw [hs, e1]; omega) (by rw [hs, e1]; omega); rw [hs, e1] at b; exact ⟨a, by omega⟩
    · obtain ⟨a, b⟩ := slips_cnt c (l + 1) (pv_slips l q) (by rw [hs, e1]; omega) (by rw [hs, e1]; omega); rw [hs, e1] at b; exact ⟨a, by omega⟩
theorem tick_cnt (n m : Nat) (hm : m ≤ 10) (v : pV) : 0 ≤ (pv_tick n m v).2.toInt ∧ (pv_tick n m v).2.toInt ≤ 10 := by
  obtain ⟨a, b⟩ := slips_cnt m 0 (mi_lp pv_beat n 0 v, 0) (by rw [k_0]; omega) (by rw [k_0]; omega)
  simp only [k_0] at b
  exact ⟨a, by show (mi_lp pv_slips m 0 (mi_lp pv_beat n 0 v, 0)).2.toInt ≤ 10; omega⟩
theorem tks_cnt (n m : Nat) (hm : m ≤ 10) : ∀ (c : Nat) (q : pV × Int32), 0 ≤ q.2.toInt → q.2.toInt + 10 * c < 1000000 → 0 ≤ (pv_tks n m c q).2.toInt
  | 0, _, h0, _ => h0
  | c + 1, q, h0, h1 => by
    obtain ⟨a, b⟩ := tick_cnt n m hm q.1
    have e : (q.2 + (pv_tick n m q.1).2).toInt = q.2.toInt + (pv_tick n m q.1).2.toInt := i_add (by omega) (by omega)
    exact tks_cnt n m hm c ((pv_tick n m q.1).1, q.2 + (pv_tick n m q.1).2) (by show 0 ≤ (q.2 + _).toInt; rw [e]; omega) (by show (q.2 + _).toInt + _ < _; rw [e]; omega)
theorem pv_wf_T {n m T T' : Nat} {v : pV} (hT : T ≤ T') (wf : pv_wf n m T v) : pv_wf n m T' v := pv_wf_c hT (fun _ _ _ => rfl) (fun _ _ _ _ => rfl) (fun _ _ _ _ => rfl) wf
section CG
variable {n m T : Nat} {v w : pV}
theorem gd_owns (wf : pv_wf n m T v) (h : pv_eq n m v w) (a q r : Int32) : pv_good T v w (pv_owns n v a q r) (pv_owns n w a q r) := by
  have hn := wf.2.2.1
  unfold pv_owns
  by_cases hc : (pv_isn n a && pv_iso q r) = true
  · rw [if_pos hc, if_pos hc]
    simp only [Bool.and_eq_true] at hc
    obtain ⟨i, hi, rfl⟩ := pv_isn_of hc.1 (by omega)
    rw [nI_clp i (by omega)]
    have w1 := pv_sn_wf wf hi hc.2
    have e1 := cg_sn h i q r
    refine ⟨cg_cnt w1 e1 _, Or.inr ⟨?_, n, m, pv_wf_T (by omega) w1, e1⟩⟩
    exact (lp_cnt (fun i c => by split <;> simp) n 0 0 (by rw [k_0]; omega) (by rw [k_0]; omega)).1
  · rw [if_neg hc, if_neg hc]
    exact ⟨rfl, Or.inl ⟨Or.inl rfl, rfl, rfl⟩⟩
theorem gd_looks (wf : pv_wf n m T v) (h : pv_eq n m v w) (a : Int32) : pv_good T v w (pv_looks n m v a) (pv_looks n m w a) := by
  have hn := wf.2.2.1
  unfold pv_looks
  by_cases hc : pv_in a 1 60 = true
  · rw [if_pos hc, if_pos hc]
    have e1 := cg_lks a.toNatClampNeg v w wf h
    refine ⟨cg_ref e1, Or.inr ⟨?_, n, m, pv_wf_T (by omega) (pv_lks_wf _ _ wf), e1⟩⟩
    exact (lp_cnt (fun i c => by split <;> simp) n 0 0 (by rw [k_0]; omega) (by rw [k_0]; omega)).1
  · rw [if_neg hc, if_neg hc]
    exact ⟨rfl, Or.inl ⟨Or.inl rfl, rfl, rfl⟩⟩
theorem gd_ticks (wf : pv_wf n m T v) (h : pv_eq n m v w) (hT : T + 2000 < 2000000000) (a : Int32) : pv_good T v w (pv_ticks n m v a) (pv_ticks n m w a) := by
  have hm := wf.2.2.2.1
  unfold pv_ticks
  by_cases hc : pv_in a 1 200 = true
  · rw [if_pos hc, if_pos hc]
    obtain ⟨N, h1, h2, rfl⟩ := in_nat (l := 1) (h := 200) (by decide) (by decide) hc
    rw [nI_clp N (by omega)]
    have hmN := mul_le hm h2
    obtain ⟨e1, e2⟩ := cg_tks N T (v, 0) (w, 0) wf h rfl (by omega)
    exact ⟨e2, Or.inr ⟨tks_cnt n m hm N (v, 0) (by rw [k_0]; omega) (by simp only [k_0]; omega), n, m, pv_wf_T (by omega) (pv_tks_wf N T (v, 0) wf (by omega)), e1⟩⟩
  · rw [if_neg hc, if_neg hc]
    exact ⟨rfl, Or.inl ⟨Or.inl rfl, rfl, rfl⟩⟩
theorem gd_turn (wf : pv_wf n m T v) (h : pv_eq n m v w) (a : Int32) : pv_good T v w (pv_turn m v a) (pv_turn m w a) := by
  have hm := wf.2.2.2.1
  unfold pv_turn
  by_cases hc : pv_isn m a = true
  · rw [if_pos hc, if_pos hc]
    obtain ⟨l, hl, rfl⟩ := pv_isn_of hc (by omega)
    rw [nI_clp l (by omega), ← h.lk hl (show 3 < 10 by decide)]
    have hup : 1 - v (54 + 10 * l + 3) = 0 ∨ 1 - v (54 + 10 * l + 3) = 1 := by
      rcases (wf.2.2.2.2.2.2.2.2 l hl).2.2.2.1 with e | e <;> rw [e]
      · exact Or.inr rfl
      · exact Or.inl rfl
    refine ⟨rfl, Or.inr ⟨by rcases hup with e | e <;> (show 0 ≤ (1 - v (54 + 10 * l + 3)).toInt) <;> rw [e] <;> decide, n, m, ?_, h.up rfl⟩⟩
    obtain ⟨x1, x2, x3, x4, x5, x6, x7, wN, wL⟩ := wf
    generalize 1 - v (54 + 10 * l + 3) = z at hup
    show pv_wf n m (T + 2000) (upd v (54 + 10 * l + 3) z)
    have lo : ∀ p, p < 54 → upd v (54 + 10 * l + 3) z p = v p := fun p hp => upd_ne (by omega)
    refine ⟨by rw [lo 4 (by decide)]; exact x1, by rw [lo 5 (by decide)]; exact x2, x3, x4, by rw [lo 0 (by decide)]; exact x5, by rw [lo 1 (by decide)]; exact x6, by rw [lo 2 (by decide)]; exact x7, fun i hi => pv_wfN_c (fun f hf => lo _ (by omega)) (wN i hi), fun k hk => ?_⟩
    by_cases ek : k = l
    · subst ek
      obtain ⟨y1, y2, y3, y4, y5, y6, y7, y8⟩ := wL k hk
      unfold pv_wfL
      rw [upd_same, upd_ne (j := 54 + 10 * k + 0) (by omega), upd_ne (j := 54 + 10 * k + 1) (by omega), upd_ne (j := 54 + 10 * k + 2) (by omega), upd_ne (j := 54 + 10 * k + 4) (by omega), upd_ne (j := 54 + 10 * k + 5) (by omega), upd_ne (j := 54 + 10 * k + 6) (by omega), lo 0 (by decide)]
      exact ⟨y1, y2, y3, hup, y5, y6, y7, by omega⟩
    · exact pv_wfL_c (lo 0 (by decide)) (fun f hf => upd_ne (by omega)) (by omega) (wL k hk)
  · rw [if_neg hc, if_neg hc]
    exact ⟨rfl, Or.inl ⟨Or.inl rfl, rfl, rfl⟩⟩
theorem gd_clear (wf : pv_wf n m T v) (h : pv_eq n m v w) (hT : T < 2000000000) (a : Int32) : pv_good T v w (pv_clear m v a) (pv_clear m w a) := by
  have hm := wf.2.2.2.1
  have hn := wf.2.2.1
  unfold pv_clear
  by_cases hc : pv_isn m a = true
  · rw [if_pos hc, if_pos hc]
    obtain ⟨l, hl, rfl⟩ := pv_isn_of hc (by omega)
    rw [nI_clp l (by omega), ← h.lk hl (show 5 < 10 by decide), ← h.lk hl (show 6 < 10 by decide), ← h.lk hl (show 4 < 10 by decide)]
    obtain ⟨x1, x2, x3, x4, x5, x6, x7, wN, wL⟩ := wf
    obtain ⟨y1, y2, y3, y4, y5, y6, y7, y8⟩ := wL l hl
    refine ⟨rfl, Or.inr ⟨by (show 0 ≤ (_ + _ : Int32).toInt); rw [i_add (by omega) (by omega)]; omega, n, m, ?_, cg_st h l rfl⟩⟩
    show pv_wf n m (T + 2000) (pv_st v l (v (54 + 10 * l + 4)))
    have lo : ∀ p, p < 54 → pv_st v l (v (54 + 10 * l + 4)) p = v p := fun p hp => pv_st_ne (by omega)
    refine ⟨by rw [lo 4 (by decide)]; exact x1, by rw [lo 5 (by decide)]; exact x2, x3, x4, by rw [lo 0 (by decide)]; exact x5, by rw [lo 1 (by decide)]; exact x6, by rw [lo 2 (by decide)]; exact x7, fun i hi => pv_wfN_c (fun f hf => lo _ (by omega)) (wN i hi), fun k hk => ?_⟩
    by_cases ek : k = l
    · subst ek
      obtain ⟨s4, s5, s6⟩ := pv_st_456 (v := v) (l := k) (x := v (54 + 10 * k + 4))
      unfold pv_wfL
      rw [s4, s5, s6, pv_st_ne (p := 54 + 10 * k + 0) (by omega), pv_st_ne (p := 54 + 10 * k + 1) (by omega), pv_st_ne (p := 54 + 10 * k + 2) (by omega), pv_st_ne (p := 54 + 10 * k + 3) (by omega), lo 0 (by decide), k_0]
      exact ⟨y1, y2, y3, y4, y5, by omega, by omega, by omega⟩
    · exact pv_wfL_c (lo 0 (by decide)) (fun f hf => pv_st_ne (by omega)) (by omega) (wL k hk)
  · rw [if_neg hc, if_neg hc]
    exact ⟨rfl, Or.inl ⟨Or.inl rfl, rfl, rfl⟩⟩
theorem gd_node (wf : pv_wf n m T v) (h : pv_eq n m v w) (q r : Int32) : pv_good T v w (pv_node n v q r) (pv_node n w q r) := by
  have hn := wf.2.2.1
  have hm := wf.2.2.2.1
  unfold pv_node
  by_cases hc : pv_iso q r = true
  · rw [if_pos hc, if_pos hc]
    by_cases h6 : n < 6
    · rw [if_pos h6, if_pos h6]
      refine ⟨rfl, Or.inr ⟨by (show 0 ≤ (nI n).toInt); rw [i_nI (by omega)]; omega, n + 1, m, ?_, fun p hp => ?_⟩⟩
      · obtain ⟨x1, x2, x3, x4, x5, x6, x7, wN, wL⟩ := wf
        show pv_wf (n + 1) m (T + 2000) (upd (pv_sn v n q r) 4 (nI (n + 1)))
        have lo : ∀ p, p < 6 → p ≠ 4 → upd (pv_sn v n q r) 4 (nI (n + 1)) p = v p := fun p hp h4 => by rw [upd_ne h4, pv_sn_ne (by omega)]
        refine ⟨upd_same _ _ _, by rw [lo 5 (by decide) (by decide)]; exact x2, by omega, x4, by rw [lo 0 (by decide) (by decide)]; exact x5, by rw [lo 1 (by decide) (by decide)]; exact x6, by rw [lo 2 (by decide) (by decide)]; exact x7, fun i hi => ?_, fun l hl => ?_⟩
        · by_cases ei : i = n
          · subst ei
            unfold pv_iso at hc
            simp only [Bool.and_eq_true, pv_in_iff] at hc
            have k9 : (9 : Int32).toInt = 9 := by decide
            have k99 : (99 : Int32).toInt = 99 := by decide
            have m99 : (-99 : Int32).toInt = -99 := by decide
            rw [k9, k_0, k99, m99] at hc
            refine pv_wfN_c (v := pv_sn v i q r) (fun f hf => upd_ne (by omega)) ?_
            unfold pv_wfN
            rw [pv_sn_at (by decide), pv_sn_at (by decide), pv_sn_at (by decide), pv_sn_at (by decide), pv_sn_at (by decide), pv_sn_at (by decide), pv_sn_at (by decide)]
            exact ⟨hc.1, show 0 ≤ (0 : Int32).toInt ∧ (0 : Int32).toInt ≤ 9 by decide, hc.2, Or.inl rfl, hc.1, hc.2, show -99 ≤ (0 : Int32).toInt ∧ (0 : Int32).toInt ≤ 99 by decide⟩
          · exact pv_wfN_c (fun f hf => by rw [upd_ne (by omega), pv_sn_ne (by omega)]) (wN i (by omega))
        · have := pv_wfL_c (u := upd (pv_sn v n q r) 4 (nI (n + 1))) (lo 0 (by decide) (by decide)) (fun f hf => by rw [upd_ne (by omega), pv_sn_ne (by omega)]) (show T ≤ T + 2000 by omega) (wL l hl)
          obtain ⟨⟨a, ha, ea⟩, ⟨b, hb, eb⟩, rest⟩ := this
          exact ⟨⟨a, by omega, ea⟩, ⟨b, by omega, eb⟩, rest⟩
      · by_cases e4 : p = 4
        · subst e4
          show upd (pv_sn v n q r) 4 (nI (n + 1)) 4 = upd (pv_sn w n q r) 4 (nI (n + 1)) 4
          rw [upd_same, upd_same]
        · show upd _ 4 _ p = upd _ 4 _ p
          rw [upd_ne e4, upd_ne e4]
          unfold pv_sn
          by_cases hr : 6 + 8 * n ≤ p ∧ p < 6 + 8 * n + 8
          · rw [if_pos hr, if_pos hr]
          · rw [if_neg hr, if_neg hr, h p (by omega)]
    · rw [if_neg h6, if_neg h6]
      exact ⟨rfl, Or.inl ⟨Or.inr rfl, rfl, rfl⟩⟩
  · rw [if_neg hc, if_neg hc]
    exact ⟨rfl, Or.inl ⟨Or.inl rfl, rfl, rfl⟩⟩
theorem gd_link (wf : pv_wf n m T v) (h : pv_eq n m v w) (a b k : Int32) : pv_good T v w (pv_link n m v a b k) (pv_link n m w a b k) := by
  have hn := wf.2.2.1
  have hm := wf.2.2.2.1
  unfold pv_link
  by_cases hc : (pv_isn n a && (pv_isn n b && (decide (¬ a = b) && pv_in k 0 9))) = true
  · rw [if_pos hc, if_pos hc]
    simp only [Bool.and_eq_true, pv_in_iff] at hc
    obtain ⟨ia, hia, rfl⟩ := pv_isn_of hc.1 (by omega)
    obtain ⟨ib, hib, rfl⟩ := pv_isn_of hc.2.1 (by omega)
    by_cases h10 : m < 10
    · rw [if_pos h10, if_pos h10]
      refine ⟨rfl, Or.inr ⟨by (show 0 ≤ (nI m).toInt); rw [i_nI (by omega)]; omega, n, m + 1, ?_, fun p hp => ?_⟩⟩
      · obtain ⟨x1, x2, x3, x4, x5, x6, x7, wN, wL⟩ := wf
        show pv_wf n (m + 1) (T + 2000) (upd (pv_ln v m (nI ia) (nI ib) k) 5 (nI (m + 1)))
        have lo : ∀ p, p < 54 + 10 * m → p ≠ 5 → upd (pv_ln v m (nI ia) (nI ib) k) 5 (nI (m + 1)) p = v p := fun p hp h5 => by
          unfold pv_ln
          rw [upd_ne h5, pv_st_ne (by omega), upd_ne (by omega), upd_ne (by omega), upd_ne (by omega), upd_ne (by omega)]
        refine ⟨by rw [lo 4 (by omega) (by decide)]; exact x1, upd_same _ _ _, x3, by omega, by rw [lo 0 (by omega) (by decide)]; exact x5, by rw [lo 1 (by omega) (by decide)]; exact x6, by rw [lo 2 (by omega) (by decide)]; exact x7, fun i hi => ?_, fun l hl => ?_⟩
        · have := pv_wfN_c (u := upd (pv_ln v m (nI ia) (nI ib) k) 5 (nI (m + 1))) (fun f hf => lo _ (by omega) (by omega)) (wN i hi)
          obtain ⟨y1, y2, y3, y4, y5⟩ := this
          refine ⟨y1, y2, y3, ?_, y5⟩
          rcases y4 with e | ⟨l, hl, e⟩
          · exact Or.inl e
          · exact Or.inr ⟨l, by omega, e⟩
        · by_cases el : l = m
          · subst el
            have k9 : (9 : Int32).toInt = 9 := by decide
            have hk := hc.2.2.2
            rw [k_0, k9] at hk
            have q0 : upd (pv_ln v l (nI ia) (nI ib) k) 5 (nI (l + 1)) 0 = v 0 := lo 0 (by omega) (by decide)
            obtain ⟨s4, s5, s6⟩ := pv_st_456 (v := upd (upd (upd (upd v (54 + 10 * l + 0) (nI ia)) (54 + 10 * l + 1) (nI ib)) (54 + 10 * l + 2) k) (54 + 10 * l + 3) 1) (l := l) (x := v 0)
            have r : ∀ f, f < 7 → upd (pv_ln v l (nI ia) (nI ib) k) 5 (nI (l + 1)) (54 + 10 * l + f) = pv_ln v l (nI ia) (nI ib) k (54 + 10 * l + f) := fun f hf => upd_ne (by omega)
            refine pv_wfL_c (v := pv_ln v l (nI ia) (nI ib) k) (T := T) (upd_ne (by decide)) r (by omega) ?_
            unfold pv_wfL
            have z0 : pv_ln v l (nI ia) (nI ib) k 0 = v 0 := by
              unfold pv_ln
              rw [pv_st_ne (by omega), upd_ne (by omega), upd_ne (by omega), upd_ne (by omega), upd_ne (by omega)]
            have z1 : pv_ln v l (nI ia) (nI ib) k (54 + 10 * l + 0) = nI ia := by
              unfold pv_ln
              rw [pv_st_ne (by omega), upd_ne (by omega), upd_ne (by omega), upd_ne (by omega), upd_same]
            have z2 : pv_ln v l (nI ia) (nI ib) k (54 + 10 * l + 1) = nI ib := by
              unfold pv_ln
              rw [pv_st_ne (by omega), upd_ne (by omega), upd_ne (by omega), upd_same]
            have z3 : pv_ln v l (nI ia) (nI ib) k (54 + 10 * l + 2) = k := by
              unfold pv_ln
              rw [pv_st_ne (by omega), upd_ne (by omega), upd_same]
            have z4 : pv_ln v l (nI ia) (nI ib) k (54 + 10 * l + 3) = 1 := by
              unfold pv_ln
              rw [pv_st_ne (by omega), upd_same]
            rw [z0, z1, z2, z3, z4, show pv_ln v l (nI ia) (nI ib) k (54 + 10 * l + 4) = v 0 from s4, show pv_ln v l (nI ia) (nI ib) k (54 + 10 * l + 5) = 0 from s5, show pv_ln v l (nI ia) (nI ib) k (54 + 10 * l + 6) = 0 from s6, k_0]
            exact ⟨⟨ia, hia, rfl⟩, ⟨ib, hib, rfl⟩, hk, Or.inr rfl, by omega, by omega, by omega, by omega⟩
          · exact pv_wfL_c (lo 0 (by omega) (by decide)) (fun f hf => lo _ (by omega) (by omega)) (by omega) (wL l (by omega))
      · have h0 := h.lo (show 0 < 6 by decide)
        show upd _ 5 _ p = upd _ 5 _ p
        by_cases e5 : p = 5
        · rw [e5, upd_same, upd_same]
        · rw [upd_ne e5, upd_ne e5]
          unfold pv_ln pv_st
          by_cases hr : 54 + 10 * m + 4 ≤ p ∧ p < 54 + 10 * m + 10
          · rw [if_pos hr, if_pos hr, h0]
          · rw [if_neg hr, if_neg hr]
            by_cases e3 : p = 54 + 10 * m + 3
            · rw [e3, upd_same, upd_same]
            · rw [upd_ne e3, upd_ne e3]
              by_cases e2 : p = 54 + 10 * m + 2
              · rw [e2, upd_same, upd_same]
              · rw [upd_ne e2, upd_ne e2]
                by_cases e1 : p = 54 + 10 * m + 1
                · rw [e1, upd_same, upd_same]
                · rw [upd_ne e1, upd_ne e1]
                  by_cases e0 : p = 54 + 10 * m + 0
                  · rw [e0, upd_same, upd_same]
                  · rw [upd_ne e0, upd_ne e0, h p (by omega)]
    · rw [if_neg h10, if_neg h10]
      exact ⟨rfl, Or.inl ⟨Or.inr rfl, rfl, rfl⟩⟩
  · rw [if_neg hc, if_neg hc]
    exact ⟨rfl, Or.inl ⟨Or.inl rfl, rfl, rfl⟩⟩
end CG
