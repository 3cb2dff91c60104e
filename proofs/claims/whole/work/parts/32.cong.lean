/-! PURE: two vectors that agree where something is -/
def pv_eq (n m : Nat) (v w : pV) : Prop := ∀ p, (p < 6 ∨ (6 ≤ p ∧ p < 6 + 8 * n) ∨ (54 ≤ p ∧ p < 54 + 10 * m)) → v p = w p
theorem mi_lp_S {α : Type} (f : Nat → α → α) (c i : Nat) (a : α) : mi_lp f (c + 1) i a = mi_lp f c (i + 1) (f i a) := rfl
section CG
variable {n m T : Nat} {v w : pV}
theorem pv_eq.lo (h : pv_eq n m v w) {p : Nat} (hp : p < 6) : v p = w p := h p (Or.inl hp)
theorem pv_eq.nd (h : pv_eq n m v w) {i f : Nat} (hi : i < n) (hf : f < 8) : v (6 + 8 * i + f) = w (6 + 8 * i + f) := h _ (Or.inr (Or.inl (by omega)))
theorem pv_eq.lk (h : pv_eq n m v w) {l f : Nat} (hl : l < m) (hf : f < 10) : v (54 + 10 * l + f) = w (54 + 10 * l + f) := h _ (Or.inr (Or.inr (by omega)))
theorem pv_eq.rf : pv_eq n m v v := fun _ _ => rfl
theorem pv_eq.sy (h : pv_eq n m v w) : pv_eq n m w v := fun p hp => (h p hp).symm
theorem pv_eq.tr {u : pV} (h : pv_eq n m v w) (h2 : pv_eq n m w u) : pv_eq n m v u := fun p hp => (h p hp).trans (h2 p hp)
theorem pv_eq.up (h : pv_eq n m v w) {p : Nat} {x y : Int32} (e : x = y) : pv_eq n m (upd v p x) (upd w p y) := fun q hq => by
  by_cases hqp : q = p
  · rw [hqp, upd_same, upd_same, e]
  · rw [upd_ne hqp, upd_ne hqp, h q hq]
theorem pv_eq.wf (h : pv_eq n m v w) (wf : pv_wf n m T v) : pv_wf n m T w := pv_wf_c (Nat.le_refl _) (fun p hp _ => (h.lo hp).symm) (fun i hi f hf => (h.nd hi (by omega)).symm) (fun l hl f hf => (h.lk hl (by omega)).symm) wf
theorem cg_src (wf : pv_wf n m T v) (h : pv_eq n m v w) {i : Nat} (hi : i < n) : pv_src v i = pv_src w i := by
  have hm := wf.2.2.2.1
  unfold pv_src
  rw [← h.nd hi (show 3 < 8 by decide)]
  rcases (wf.2.2.2.2.2.2.2.1 i hi).2.2.2.1 with e | ⟨l, hl, e⟩
  · rw [if_pos e, if_pos e]
  · rw [e, if_neg (nI_nNONE l (by omega)), if_neg (nI_nNONE l (by omega)), nI_clp l (by omega), h.lk hl (by decide)]
theorem cg_fr (h : pv_eq n m v w) {l : Nat} (hl : l < m) : pv_fr v l = pv_fr w l := by unfold pv_fr; rw [h.lk hl (by decide)]
theorem cg_to (h : pv_eq n m v w) {l : Nat} (hl : l < m) : pv_to v l = pv_to w l := by unfold pv_to; rw [h.lk hl (by decide)]
theorem cg_off (wf : pv_wf n m T v) (h : pv_eq n m v w) {l : Nat} (hl : l < m) : pv_off v l = pv_off w l := by
  obtain ⟨ha, -⟩ := wf.fr hl
  unfold pv_off
  rw [← cg_fr h hl]
  refine decide_eq_decide.mpr ?_
  rw [h.lk hl (by decide), cg_src wf h ha, h.lk hl (show 1 < 10 by decide), h.nd ha (by decide), h.lo (by decide)]
theorem cg_key (wf : pv_wf n m T v) (h : pv_eq n m v w) {l : Nat} (hl : l < m) : pv_key v l = pv_key w l := by
  obtain ⟨ha, -⟩ := wf.fr hl
  unfold pv_key
  rw [← cg_fr h hl, h.nd ha (by decide), h.nd ha (show 1 < 8 by decide), h.lk hl (by decide)]
theorem cg_tk (wf : pv_wf n m T v) (h : pv_eq n m v w) {i l : Nat} (hi : i < n) (hl : l < m) {f : Int32} (hf : f = -1001 ∨ ∃ k, k < l ∧ f = nI k) : pv_tk v i l f = pv_tk w i l f := by
  have hm := wf.2.2.2.1
  obtain ⟨ha, -⟩ := wf.fr hl
  unfold pv_tk
  rw [← cg_fr h hl, ← cg_off wf h hl, ← cg_key wf h hl, ← h.lk hl (show 1 < 10 by decide), ← h.nd ha (show 0 < 8 by decide), ← h.nd hi (show 4 < 8 by decide)]
  rcases hf with rfl | ⟨k, hk, rfl⟩
  · simp only [true_or, and_true]
  · rw [nI_clp k (by omega), ← cg_key wf h (by omega : k < m)]
theorem cg_lpx {F G : Nat → Int32 → Int32} {P : Nat → Int32 → Prop} (hP : ∀ l f, P l f → P (l + 1) (F l f)) (he : ∀ l f, l < m → P l f → F l f = G l f) : ∀ (c l : Nat) (f : Int32), l + c = m → P l f → mi_lp F c l f = mi_lp G c l f := by
  intro c
  induction c with
  | zero => intro l f _ _; rfl
  | succ c ih =>
    intro l f hl hf
    rw [mi_lp_S, mi_lp_S, ← he l f (by omega) hf]
    exact ih (l + 1) _ (by omega) (hP l f hf)
theorem cg_lp (wf : pv_wf n m T v) (h : pv_eq n m v w) {i : Nat} (hi : i < n) : ∀ (c l : Nat) (f : Int32), l + c = m → (f = -1001 ∨ ∃ k, k < l ∧ f = nI k) → mi_lp (pv_tk v i) c l f = mi_lp (pv_tk w i) c l f := cg_lpx (P := fun l f => f = -1001 ∨ ∃ k, k < l ∧ f = nI k) (fun _ _ hf => pv_tk_ok hf) (fun _ _ hl hf => cg_tk wf h hi hl hf)
theorem cg_take (wf : pv_wf n m T v) (h : pv_eq n m v w) {i : Nat} (hi : i < n) : pv_take m v i = pv_take m w i := cg_lp wf h hi m 0 _ (by omega) (Or.inl rfl)
theorem cg_of (wf : pv_wf n m T v) (h : pv_eq n m v w) {l f : Nat} (hl : l < m) (hf : f < 8) : pv_of v l f = pv_of w l f := by
  obtain ⟨ha, -⟩ := wf.fr hl
  unfold pv_of
  rw [← cg_fr h hl, h.nd ha (show 1 < 8 by decide), h.nd ha hf]
theorem cg_lf (wf : pv_wf n m T v) (h : pv_eq n m v w) {i f : Nat} (hi : i < n) (hf : f < 8) : pv_lf m v i f = pv_lf m w i f := by
  have hm := wf.2.2.2.1
  unfold pv_lf
  rw [← cg_take wf h hi, h.nd hi (show 4 < 8 by decide), h.nd hi (show 5 < 8 by decide)]
  rcases pv_take_ok (m := m) (v := v) (i := i) with e | ⟨k, hk, e⟩
  · rw [e, if_pos rfl, if_pos rfl]
  · rw [e, if_neg (nI_nNONE k (by omega)), if_neg (nI_nNONE k (by omega)), nI_clp k (by omega), cg_of wf h hk hf]
theorem cg_lk (wf : pv_wf n m T v) (h : pv_eq n m v w) : pv_eq n m (pv_lk n m v) (pv_lk n m w) := fun p hp => by
  unfold pv_lk pv_lkp
  by_cases hc : 6 ≤ p ∧ p < 6 + 8 * n ∧ (p - 6) % 8 < 4 ∧ 4 * ((p - 6) / 8) + (p - 6) % 8 < 4 * n
  · rw [if_pos hc, if_pos hc, cg_lf wf h (by omega) (by omega)]
  · rw [if_neg hc, if_neg hc, h p hp]
theorem cg_chp (wf : pv_wf n m T v) (h : pv_eq n m v w) : pv_chp m v (4 * n) = pv_chp m w (4 * n) := by
  unfold pv_chp
  rw [Bool.eq_iff_iff, List.any_eq_true, List.any_eq_true]
  have key : ∀ k, k ∈ List.range (4 * n) → (decide (v (6 + 8 * (k / 4) + k % 4) ≠ pv_lf m v (k / 4) (k % 4))) = (decide (w (6 + 8 * (k / 4) + k % 4) ≠ pv_lf m w (k / 4) (k % 4))) := fun k hk => by
    have := List.mem_range.mp hk
    rw [cg_lf wf h (by omega) (by omega), h.nd (by omega) (by omega)]
  exact ⟨fun ⟨k, hk, e⟩ => ⟨k, hk, (key k hk) ▸ e⟩, fun ⟨k, hk, e⟩ => ⟨k, hk, (key k hk).symm ▸ e⟩⟩
theorem cg_lks : ∀ (c : Nat) (v w : pV), pv_wf n m T v → pv_eq n m v w → pv_eq n m (pv_lks n m c v) (pv_lks n m c w)
  | 0, _, _, _, h => h
  | c + 1, v, w, wf, h => cg_lks c _ _ (pv_lk_wf wf) (cg_lk wf h)
theorem cg_s (h : pv_eq n m v w) {i : Nat} (hi : i < n) : pv_s v i = pv_s w i := by unfold pv_s; rw [h.nd hi (by decide), h.nd hi (show 2 < 8 by decide)]
theorem cg_beat (h : pv_eq n m v w) {i : Nat} (hi : i < n) : pv_eq n m (pv_beat i v) (pv_beat i w) := by
  unfold pv_beat
  rw [← cg_s h hi]
  exact (h.up rfl).up rfl
theorem cg_beats : ∀ (c i : Nat) (v w : pV), pv_eq n m v w → i + c = n → pv_eq n m (mi_lp pv_beat c i v) (mi_lp pv_beat c i w)
  | 0, _, _, _, h, _ => h
  | c + 1, i, v, w, h, hi => cg_beats c (i + 1) _ _ (cg_beat h (by omega)) (by omega)
theorem cg_low (h : pv_eq n m v w) {l : Nat} (hl : l < m) (x : Int32) : pv_eq n m (pv_low v l x) (pv_low w l x) := by
  unfold pv_low
  have h1 : pv_eq n m (upd v (54 + 10 * l + 4) x) (upd w (54 + 10 * l + 4) x) := h.up rfl
  exact h1.up (by rw [h1.lk hl (by decide)])
theorem cg_high (h : pv_eq n m v w) {l : Nat} (hl : l < m) (x : Int32) : pv_eq n m (pv_high v l x) (pv_high w l x) := by
  unfold pv_high
  have h1 := cg_low h hl x
  exact h1.up (by rw [h1.lk hl (by decide)])
theorem cg_bey (h : pv_eq n m v w) {l : Nat} (hl : l < m) (f x : Int32) : pv_eq n m (pv_bey v l f x) (pv_bey w l f x) := by
  unfold pv_bey
  have h1 := cg_high h hl x
  rw [← h1.lo (show 1 < 6 by decide)]
  generalize (if 0 ≤ x - f then x - f else 0 - (x - f)) = dd
  split
  · exact h1
  · exact h1.up (by rw [h1.lk hl (by decide)])
theorem cg_slip (wf : pv_wf n m T v) (h : pv_eq n m v w) {l : Nat} (hl : l < m) : pv_eq n m (pv_slip l v).1 (pv_slip l w).1 ∧ (pv_slip l v).2 = (pv_slip l w).2 := by
  obtain ⟨ha, -⟩ := wf.fr hl
  obtain ⟨hb, -⟩ := wf.to hl
  have e : pv_f0 v l = pv_f0 w l := by
    unfold pv_f0
    rw [← cg_fr h hl, ← cg_to h hl, h.lk hl (by decide), h.nd ha (by decide), h.nd hb (by decide)]
  have e0 := h.lo (show 0 < 6 by decide)
  unfold pv_slip
  rw [← e, ← e0]
  split
  · split
    · exact ⟨cg_bey h hl _ _, rfl⟩
    · exact ⟨cg_bey (h.up (by rw [h.lk hl (by decide)])) hl _ _, rfl⟩
  · exact ⟨cg_bey (h.up (by rw [h.lk hl (by decide)])) hl _ _, rfl⟩
theorem cg_slips : ∀ (c l T : Nat) (q r : pV × Int32), pv_wf n m T q.1 → pv_bits n q.1 → pv_eq n m q.1 r.1 → q.2 = r.2 → l + c = m → T + c < 2000000000 → pv_eq n m (mi_lp pv_slips c l q).1 (mi_lp pv_slips c l r).1 ∧ (mi_lp pv_slips c l q).2 = (mi_lp pv_slips c l r).2
  | 0, _, _, _, _, _, _, h, e, _, _ => ⟨h, e⟩
  | c + 1, l, T, q, r, wf, hb, h, e, hl, hT => by
    obtain ⟨a1, a2⟩ := cg_slip wf h (by omega : l < m)
    obtain ⟨w1, w2⟩ := pv_slip_wf wf hb (by omega : l < m) (by omega)
    exact cg_slips c (l + 1) (T + 1) (pv_slips l q) (pv_slips l r) w1 w2 a1 (by show q.2 + _ = r.2 + _; rw [e, a2]) (by omega) (by omega)
theorem cg_tick (wf : pv_wf n m T v) (h : pv_eq n m v w) (hT : T + m < 2000000000) : pv_eq n m (pv_tick n m v).1 (pv_tick n m w).1 ∧ (pv_tick n m v).2 = (pv_tick n m w).2 := by
  obtain ⟨w1, w2⟩ := pv_beats_wf n 0 v wf (by omega) (fun k hk => by omega)
  obtain ⟨a, b⟩ := cg_slips m 0 T (mi_lp pv_beat n 0 v, 0) (mi_lp pv_beat n 0 w, 0) w1 w2 (cg_beats n 0 v w h (by omega)) rfl (by omega) hT
  unfold pv_tick
  exact ⟨a.up (by rw [a.lo (by decide)]), b⟩
theorem cg_tks : ∀ (c T : Nat) (q r : pV × Int32), pv_wf n m T q.1 → pv_eq n m q.1 r.1 → q.2 = r.2 → T + m * c < 2000000000 → pv_eq n m (pv_tks n m c q).1 (pv_tks n m c r).1 ∧ (pv_tks n m c q).2 = (pv_tks n m c r).2
  | 0, _, _, _, _, h, e, _ => ⟨h, e⟩
  | c + 1, T, q, r, wf, h, e, hT => by
    have h1 : m * (c + 1) = m * c + m := Nat.mul_succ m c
    obtain ⟨a, b⟩ := cg_tick wf h (by omega)
    exact cg_tks c (T + m) _ _ (pv_tick_wf wf (by omega)) a (by show q.2 + _ = r.2 + _; rw [e, b]) (by omega)
theorem cg_ref (h : pv_eq n m v w) : pv_ref n v = pv_ref n w := by
  have L : ∀ (c i : Nat) (x : Int32), i + c = n → mi_lp (fun i c => if v (6 + 8 * i + 3) = -1001 then c else c + 1) c i x = mi_lp (fun i c => if w (6 + 8 * i + 3) = -1001 then c else c + 1) c i x := by
    intro c
    induction c with
    | zero => intro i x _; rfl
    | succ c ih => intro i x hi; rw [mi_lp, mi_lp, h.nd (by omega) (by decide), ih (i + 1) _ (by omega)]
  exact L n 0 0 (by omega)
theorem cg_cnt (wf : pv_wf n m T v) (h : pv_eq n m v w) (a : Int32) : pv_cnt n v a = pv_cnt n w a := by
  have L : ∀ (c i : Nat) (x : Int32), i + c = n → mi_lp (fun k c => if pv_src v k = a then c + 1 else c) c i x = mi_lp (fun k c => if pv_src w k = a then c + 1 else c) c i x := by
    intro c
    induction c with
    | zero => intro i x _; rfl
    | succ c ih => intro i x hi; rw [mi_lp, mi_lp, cg_src wf h (by omega), ih (i + 1) _ (by omega)]
  exact L n 0 0 (by omega)
theorem cg_sn (h : pv_eq n m v w) (i : Nat) (q r : Int32) : pv_eq n m (pv_sn v i q r) (pv_sn w i q r) := fun p hp => by
  unfold pv_sn
  by_cases hc : 6 + 8 * i ≤ p ∧ p < 6 + 8 * i + 8
  · rw [if_pos hc, if_pos hc]
  · rw [if_neg hc, if_neg hc, h p hp]
theorem cg_st (h : pv_eq n m v w) (l : Nat) {x y : Int32} (e : x = y) : pv_eq n m (pv_st v l x) (pv_st w l y) := fun p hp => by
  unfold pv_st
  by_cases hc : 54 + 10 * l + 4 ≤ p ∧ p < 54 + 10 * l + 10
  · rw [if_pos hc, if_pos hc, e]
  · rw [if_neg hc, if_neg hc, h p hp]
theorem cg_fs (x : Int32) : ∀ (c l : Nat) (v w : pV), pv_eq n m v w → pv_eq n m (mi_lp (pv_fs x) c l v) (mi_lp (pv_fs x) c l w)
  | 0, _, _, _, h => h
  | c + 1, l, v, w, h => cg_fs x c (l + 1) _ _ (cg_st h l rfl)
end CG
