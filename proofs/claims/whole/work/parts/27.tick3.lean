/-! PURE: what stays sound over a tick; the loops of a tick -/
theorem pv_wfN_c {m : Nat} {u v : pV} {i : Nat} (h : ∀ w, w < 7 → u (6 + 8 * i + w) = v (6 + 8 * i + w)) (wf : pv_wfN m v i) : pv_wfN m u i := by
  unfold pv_wfN at *
  rw [h 0 (by decide), h 1 (by decide), h 2 (by decide), h 3 (by decide), h 4 (by decide), h 5 (by decide), h 6 (by decide)]
  exact wf
theorem pv_wfL_c {n T T' : Nat} {u v : pV} {l : Nat} (h0 : u 0 = v 0) (h : ∀ w, w < 7 → u (54 + 10 * l + w) = v (54 + 10 * l + w)) (hT : T ≤ T') (wf : pv_wfL n T v l) : pv_wfL n T' u l := by
  unfold pv_wfL at *
  rw [h 0 (by decide), h 1 (by decide), h 2 (by decide), h 3 (by decide), h 4 (by decide), h 5 (by decide), h 6 (by decide), h0]
  obtain ⟨a, b, c, d, e, f, g, k⟩ := wf
  exact ⟨a, b, c, d, e, f, g, by omega⟩
theorem pv_wf_c {n m T T' : Nat} {u v : pV} (hT : T ≤ T') (h : ∀ p, p < 6 → p ≠ 3 → u p = v p) (hN : ∀ i, i < n → ∀ w, w < 7 → u (6 + 8 * i + w) = v (6 + 8 * i + w)) (hL : ∀ l, l < m → ∀ w, w < 7 → u (54 + 10 * l + w) = v (54 + 10 * l + w)) (wf : pv_wf n m T v) : pv_wf n m T' u := by
  obtain ⟨a, b, c, d, e, f, g, wN, wL⟩ := wf
  refine ⟨by rw [h 4 (by decide) (by decide)]; exact a, by rw [h 5 (by decide) (by decide)]; exact b, c, d, by rw [h 0 (by decide) (by decide)]; exact e, by rw [h 1 (by decide) (by decide)]; exact f, by rw [h 2 (by decide) (by decide)]; exact g, fun i hi => pv_wfN_c (hN i hi) (wN i hi), fun l hl => pv_wfL_c (h 0 (by decide) (by decide)) (hL l hl) hT (wL l hl)⟩
section PT
variable {n m T : Nat} {v : pV}
theorem pv_beat_ne {i p : Nat} (h6 : p ≠ 6 + 8 * i + 6) (h7 : p ≠ 6 + 8 * i + 7) : pv_beat i v p = v p := by
  unfold pv_beat
  rw [upd_ne h6, upd_ne h7]
theorem pv_beat_i (wf : pv_wf n m T v) {i : Nat} (hi : i < n) : (-99 ≤ (pv_beat i v (6 + 8 * i + 6)).toInt ∧ (pv_beat i v (6 + 8 * i + 6)).toInt ≤ 99) ∧ 7 ≤ (pv_beat i v (6 + 8 * i + 7)).toInt ∧ (pv_beat i v (6 + 8 * i + 7)).toInt ≤ 9 := by
  obtain ⟨b1, b2⟩ := wf.s hi
  unfold pv_beat
  rw [upd_same, upd_ne (by omega), upd_same]
  rcases beat_div (s := pv_s v i) (by omega) (by omega) with ⟨h1, h2, h3⟩ | ⟨h1, h3⟩ | ⟨h1, h3⟩
  · rw [h3, show (0 : Int32) * 100 = 0 from rfl, Int32.sub_zero]
    rw [i_lt, k100] at h1
    rw [i_lt, km100] at h2
    exact ⟨by omega, by decide, by decide⟩
  · rw [i_le, k100] at h1
    rw [h3, show (1 : Int32) * 100 = 100 from rfl, i_sub (by rw [k100]; omega) (by rw [k100]; omega), k100]
    exact ⟨by omega, by decide, by decide⟩
  · rw [i_le, km100] at h1
    rw [h3, show (-1 : Int32) * 100 = -100 from rfl, i_sub (by rw [km100]; omega) (by rw [km100]; omega), km100]
    exact ⟨by omega, by decide, by decide⟩
theorem pv_beat_wf (wf : pv_wf n m T v) {i : Nat} (hi : i < n) : pv_wf n m T (pv_beat i v) := by
  have hn := wf.2.2.1
  obtain ⟨a, b, c, d, e, f, g, wN, wL⟩ := wf
  have lo : ∀ p, p < 6 → pv_beat i v p = v p := fun p hp => pv_beat_ne (by omega) (by omega)
  refine ⟨by rw [lo 4 (by decide)]; exact a, by rw [lo 5 (by decide)]; exact b, c, d, by rw [lo 0 (by decide)]; exact e, by rw [lo 1 (by decide)]; exact f, by rw [lo 2 (by decide)]; exact g, fun k hk => ?_, fun l hl => pv_wfL_c (lo 0 (by decide)) (fun w hw => pv_beat_ne (by omega) (by omega)) (Nat.le_refl _) (wL l hl)⟩
  by_cases ek : k = i
  · subst ek
    obtain ⟨x1, x2, x3, x4, x5, x6, x7⟩ := wN k hk
    have hb := (pv_beat_i ⟨a, b, c, d, e, f, g, wN, wL⟩ hi).1
    unfold pv_wfN
    rw [pv_beat_ne (p := 6 + 8 * k + 0) (by omega) (by omega), pv_beat_ne (p := 6 + 8 * k + 1) (by omega) (by omega), pv_beat_ne (p := 6 + 8 * k + 2) (by omega) (by omega), pv_beat_ne (p := 6 + 8 * k + 3) (by omega) (by omega), pv_beat_ne (p := 6 + 8 * k + 4) (by omega) (by omega), pv_beat_ne (p := 6 + 8 * k + 5) (by omega) (by omega)]
    exact ⟨x1, x2, x3, x4, x5, x6, hb⟩
  · exact pv_wfN_c (fun w hw => pv_beat_ne (by omega) (by omega)) (wN k hk)
theorem pv_beats_wf : ∀ (c i : Nat) (v : pV), pv_wf n m T v → i + c = n → (∀ k, k < i → 7 ≤ (v (6 + 8 * k + 7)).toInt ∧ (v (6 + 8 * k + 7)).toInt ≤ 9) → pv_wf n m T (mi_lp pv_beat c i v) ∧ pv_bits n (mi_lp pv_beat c i v)
  | 0, i, v, wf, h, hb => ⟨wf, fun k hk => hb k (by omega)⟩
  | c + 1, i, v, wf, h, hb => pv_beats_wf c (i + 1) (pv_beat i v) (pv_beat_wf wf (by omega)) (by omega) (fun k hk => by
      by_cases e : k = i
      · rw [e]; exact (pv_beat_i wf (by omega)).2
      · rw [pv_beat_ne (by omega) (by omega)]; exact hb k (by omega))
theorem pv_bey_4 {u : pV} {l : Nat} {f x : Int32} : pv_bey u l f x (54 + 10 * l + 4) = x := by
  have : pv_high u l x (54 + 10 * l + 4) = x := by
    unfold pv_high pv_low
    rw [upd_ne (by omega), upd_ne (by omega), upd_same]
  unfold pv_bey
  generalize (if 0 ≤ x - f then x - f else 0 - (x - f)) = dd
  split
  · exact this
  · rw [upd_ne (by omega)]; exact this
theorem pv_bey_ne {u : pV} {l p : Nat} {f x : Int32} (h4 : p ≠ 54 + 10 * l + 4) (h7 : p ≠ 54 + 10 * l + 7) (h8 : p ≠ 54 + 10 * l + 8) (h9 : p ≠ 54 + 10 * l + 9) : pv_bey u l f x p = u p := by
  have : pv_high u l x p = u p := by
    unfold pv_high pv_low
    rw [upd_ne h8, upd_ne h7, upd_ne h4]
  unfold pv_bey
  generalize (if 0 ≤ x - f then x - f else 0 - (x - f)) = dd
  split
  · exact this
  · rw [upd_ne h9]; exact this
theorem pv_slip_4 {l : Nat} : (pv_slip l v).1 (54 + 10 * l + 4) = pv_x v l := by
  unfold pv_slip pv_x
  split
  · split
    · exact pv_bey_4
    · exact pv_bey_4
  · exact pv_bey_4
theorem pv_slip_ne {l p : Nat} (h : p < 54 + 10 * l + 4 ∨ 54 + 10 * l + 9 < p) : (pv_slip l v).1 p = v p := by
  unfold pv_slip
  split
  · split
    · exact pv_bey_ne (by omega) (by omega) (by omega) (by omega)
    · show pv_bey _ _ _ _ p = _
      rw [pv_bey_ne (by omega) (by omega) (by omega) (by omega), upd_ne (by omega)]
  · show pv_bey _ _ _ _ p = _
    rw [pv_bey_ne (by omega) (by omega) (by omega) (by omega), upd_ne (by omega)]
/-- what slipped is counted once -/
theorem pv_slip_56 {l : Nat} : ((pv_slip l v).2 = 0 ∧ (pv_slip l v).1 (54 + 10 * l + 5) = v (54 + 10 * l + 5) ∧ (pv_slip l v).1 (54 + 10 * l + 6) = v (54 + 10 * l + 6)) ∨ ((pv_slip l v).2 = 1 ∧ (pv_slip l v).1 (54 + 10 * l + 5) = v (54 + 10 * l + 5) ∧ (pv_slip l v).1 (54 + 10 * l + 6) = v (54 + 10 * l + 6) + 1) ∨ ((pv_slip l v).2 = 1 ∧ (pv_slip l v).1 (54 + 10 * l + 5) = v (54 + 10 * l + 5) + 1 ∧ (pv_slip l v).1 (54 + 10 * l + 6) = v (54 + 10 * l + 6)) := by
  unfold pv_slip
  split
  · split
    · exact Or.inl ⟨rfl, pv_bey_ne (by omega) (by omega) (by omega) (by omega), pv_bey_ne (by omega) (by omega) (by omega) (by omega)⟩
    · refine Or.inr (Or.inl ⟨rfl, ?_, ?_⟩)
      · show pv_bey _ _ _ _ _ = _
        rw [pv_bey_ne (by omega) (by omega) (by omega) (by omega), upd_ne (by omega)]
      · show pv_bey _ _ _ _ _ = _
        rw [pv_bey_ne (by omega) (by omega) (by omega) (by omega), upd_same]
  · refine Or.inr (Or.inr ⟨rfl, ?_, ?_⟩)
    · show pv_bey _ _ _ _ _ = _
      rw [pv_bey_ne (by omega) (by omega) (by omega) (by omega), upd_same]
    · show pv_bey _ _ _ _ _ = _
      rw [pv_bey_ne (by omega) (by omega) (by omega) (by omega), upd_ne (by omega)]
theorem pv_slip_wf (wf : pv_wf n m T v) (hb : pv_bits n v) {l : Nat} (hl : l < m) (hT : T < 2000000000) : pv_wf n m (T + 1) (pv_slip l v).1 ∧ pv_bits n (pv_slip l v).1 := by
  have hn := wf.2.2.1
  have hx := pv_x_i wf hb hl
  have h56 := pv_slip_56 (v := v) (l := l)
  obtain ⟨a, b, c, d, e, f, g, wN, wL⟩ := wf
  have lo : ∀ p, p < 54 → (pv_slip l v).1 p = v p := fun p hp => pv_slip_ne (by omega)
  refine ⟨⟨by rw [lo 4 (by decide)]; exact a, by rw [lo 5 (by decide)]; exact b, c, d, by rw [lo 0 (by decide)]; exact e, by rw [lo 1 (by decide)]; exact f, by rw [lo 2 (by decide)]; exact g, fun k hk => pv_wfN_c (fun w hw => lo _ (by omega)) (wN k hk), fun k hk => ?_⟩, fun k hk => by rw [lo _ (by omega)]; exact hb k hk⟩
  by_cases ek : k = l
  · subst ek
    obtain ⟨x1, x2, x3, x4, x5, x6, x7, x8⟩ := wL k hk
    have k1 : (1 : Int32).toInt = 1 := by decide
    unfold pv_wfL
    rw [pv_slip_4, pv_slip_ne (p := 54 + 10 * k + 0) (by omega), pv_slip_ne (p := 54 + 10 * k + 1) (by omega), pv_slip_ne (p := 54 + 10 * k + 2) (by omega), pv_slip_ne (p := 54 + 10 * k + 3) (by omega), lo 0 (by decide)]
    refine ⟨x1, x2, x3, x4, hx, ?_⟩
    rcases h56 with ⟨-, y1, y2⟩ | ⟨-, y1, y2⟩ | ⟨-, y1, y2⟩ <;> rw [y1, y2]
    · exact ⟨x6, x7, by omega⟩
    · rw [i_add (by rw [k1]; omega) (by rw [k1]; omega), k1]; exact ⟨x6, by omega, by omega⟩
    · rw [i_add (by rw [k1]; omega) (by rw [k1]; omega), k1]; exact ⟨by omega, x7, by omega⟩
  · exact pv_wfL_c (lo 0 (by decide)) (fun w hw => pv_slip_ne (by omega)) (by omega) (wL k hk)
theorem pv_slips_wf : ∀ (c l : Nat) (q : pV × Int32) (T : Nat), pv_wf n m T q.1 → pv_bits n q.1 → l + c = m → T + c < 2000000000 → pv_wf n m (T + c) (mi_lp pv_slips c l q).1 ∧ pv_bits n (mi_lp pv_slips c l q).1
  | 0, l, q, T, wf, hb, h, hT => ⟨wf, hb⟩
  | c + 1, l, q, T, wf, hb, h, hT => by
    obtain ⟨w1, w2⟩ := pv_slip_wf wf hb (by omega : l < m) (by omega)
    have := pv_slips_wf c (l + 1) (pv_slips l q) (T + 1) w1 w2 (by omega) (by omega)
    rw [show T + (c + 1) = T + 1 + c by omega]
    exact this
theorem pv_tick_wf (wf : pv_wf n m T v) (hT : T + m < 2000000000) : pv_wf n m (T + m) (pv_tick n m v).1 := by
  obtain ⟨w1, w2⟩ := pv_beats_wf n 0 v wf (by omega) (fun k hk => by omega)
  obtain ⟨w3, w4⟩ := pv_slips_wf m 0 (mi_lp pv_beat n 0 v, 0) T w1 w2 (by omega) hT
  exact pv_wf_c (Nat.le_refl _) (fun p hp h3 => upd_ne h3) (fun i hi w hw => upd_ne (by omega)) (fun l hl w hw => upd_ne (by omega)) w3
end PT
section PC
variable {n m : Nat} {j : Nat}
theorem cN_slips : ∀ (c l T : Nat) (v : pV) (a : Int32) (M : mM), M.1 0 j = v → pv_wf n m T v → pv_bits n v → l + c = m → T + c < 2000000000 → fN_tickOnce_L68 j a (nI l) M = some ((mi_lp pv_slips c l (v, a)).2, mi_pv M 0 j (upd (mi_lp pv_slips c l (v, a)).1 3 ((mi_lp pv_slips c l (v, a)).1 3 + 1))) := by
  intro c
  induction c with
  | zero =>
    intro l T v a M hv wf hb hl hT
    have hm := wf.2.2.2.1
    rw [fN_tickOnce_L68_eq, hv, wf.2.1, if_pos (nI_le (by omega) (by omega)), mi_set_pv, hv]
    rfl
  | succ c ih =>
    intro l T v a M hv wf hb hl hT
    have hm := wf.2.2.2.1
    obtain ⟨w1, w2⟩ := pv_slip_wf wf hb (by omega : l < m) (by omega)
    rw [fN_tickOnce_L68_eq, hv, wf.2.1, if_neg (nI_ge (by omega) (by omega)), mi_ix_n (by omega : l < 10) (by decide), Option.bind_some, cN_moveStore hv wf (by omega)]
    simp only [Option.bind_some, nI_1]
    rw [ih (l + 1) (T + 1) _ _ _ (mi_pv_at _ _ _ _) w1 w2 (by omega) (by omega), mi_pv_pv]
    rfl
theorem cN_tickOnce {T : Nat} {v : pV} {M : mM} (hv : M.1 0 j = v) (wf : pv_wf n m T v) (hT : T + m < 2000000000) : fN_tickOnce j M = some ((pv_tick n m v).2, mi_pv M 0 j (pv_tick n m v).1) := by
  obtain ⟨w1, w2⟩ := pv_beats_wf n 0 v wf (by omega) (fun k hk => by omega)
  rw [fN_tickOnce_eq, show (0 : Int32) = nI 0 from rfl, cN_beats n 0 v M hv wf.1 wf.2.2.1 (by omega), show (0 : Int32) = nI 0 from rfl, cN_slips m 0 T _ _ _ (mi_pv_at _ _ _ _) w1 w2 (by omega) hT, mi_pv_pv]
  rfl
theorem cM_beatsL : ∀ (c i T : Nat) (v : pV) (M : mM), M.1 30 0 = v → pv_wf n m T v → i + c = n → fM_tick_L2 (nI i) M = fM_tick_L27 0 0 (mi_pv M 30 0 (mi_lp pv_beat c i v)) := by
  intro c
  induction c with
  | zero =>
    intro i T v M hv wf hi
    have hn := wf.2.2.1
    rw [fM_tick_L2_eq]
    simp only [ix_4_154, Option.bind_some, Nat.zero_add, hv, wf.1]
    rw [if_pos (nI_le (by omega) (by omega)), show mi_lp pv_beat 0 i v = v from rfl, ← hv, mi_pv_self]
  | succ c ih =>
    intro i T v M hv wf hi
    have hn := wf.2.2.1
    rw [fM_tick_L2_eq]
    simp only [ix_4_154, Option.bind_some, Nat.zero_add, hv, wf.1]
    rw [if_neg (nI_ge (by omega) (by omega)), cM_beats hv wf (by omega), Option.bind_some, nI_1, ih (i + 1) T _ _ (mi_pv_at _ _ _ _) (pv_beat_wf wf (by omega)) (by omega), mi_pv_pv]
    rfl
theorem cM_slipsL : ∀ (c l T : Nat) (v : pV) (a : Int32) (M : mM), M.1 30 0 = v → pv_wf n m T v → pv_bits n v → l + c = m → T + c < 2000000000 → fM_tick_L27 a (nI l) M = some ((mi_lp pv_slips c l (v, a)).2, mi_pv M 30 0 (upd (mi_lp pv_slips c l (v, a)).1 3 ((mi_lp pv_slips c l (v, a)).1 3 + 1))) := by
  intro c
  induction c with
  | zero =>
    intro l T v a M hv wf hb hl hT
    have hm := wf.2.2.2.1
    rw [fM_tick_L27_eq]
    simp only [ix_5_154, ix_3_154, Option.bind_some, Nat.zero_add, hv, wf.2.1, mi_set_pv]
    rw [if_pos (nI_le (by omega) (by omega))]
    rfl
  | succ c ih =>
    intro l T v a M hv wf hb hl hT
    have hm := wf.2.2.2.1
    obtain ⟨w1, w2⟩ := pv_slip_wf wf hb (by omega : l < m) (by omega)
    rw [fM_tick_L27_eq]
    simp only [ix_5_154, Option.bind_some, Nat.zero_add, hv, wf.2.1]
    rw [if_neg (nI_ge (by omega) (by omega)), cM_slips hv wf hb (by omega)]
    simp only [Option.bind_some, nI_1]
    rw [ih (l + 1) (T + 1) _ _ _ (mi_pv_at _ _ _ _) w1 w2 (by omega) (by omega), mi_pv_pv]
    rfl
theorem cM_tick {T : Nat} {v : pV} {M : mM} (hv : M.1 30 0 = v) (wf : pv_wf n m T v) (hT : T + m < 2000000000) : fM_tick M = some ((pv_tick n m v).2, mi_pv M 30 0 (pv_tick n m v).1) := by
  obtain ⟨w1, w2⟩ := pv_beats_wf n 0 v wf (by omega) (fun k hk => by omega)
  rw [fM_tick_eq, show (0 : Int32) = nI 0 from rfl, cM_beatsL n 0 T v M hv wf (by omega), show (0 : Int32) = nI 0 from rfl, cM_slipsL m 0 T _ _ _ (mi_pv_at _ _ _ _) w1 w2 (by omega) hT, mi_pv_pv]
  rfl
end PC
