/-! PURE: till: one link followed alone is the link in the ticks of all -/
theorem beats_out : ∀ (c i : Nat) (v : pV) (p : Nat), (∀ k, i ≤ k → k < i + c → p ≠ 6 + 8 * k + 6 ∧ p ≠ 6 + 8 * k + 7) → mi_lp pv_beat c i v p = v p := by
  intro c
  induction c with
  | zero => intro i v p _; rfl
  | succ c ih =>
    intro i v p h
    rw [mi_lp_S, ih (i + 1) _ p (fun k h1 h2 => h k (by omega) (by omega))]
    exact pv_beat_ne (h i (by omega) (by omega)).1 (h i (by omega) (by omega)).2
theorem beats_at {k : Nat} : ∀ (c i : Nat) (v : pV), i ≤ k → k < i + c → mi_lp pv_beat c i v (6 + 8 * k + 6) = pv_s v k - pv_s v k / 100 * 100 ∧ mi_lp pv_beat c i v (6 + 8 * k + 7) = 8 + pv_s v k / 100 := by
  intro c
  induction c with
  | zero => intro i v h1 h2; omega
  | succ c ih =>
    intro i v h1 h2
    rw [mi_lp_S]
    by_cases e : k = i
    · subst e
      rw [beats_out c (k + 1) _ _ (fun a h3 h4 => by omega), beats_out c (k + 1) _ _ (fun a h3 h4 => by omega)]
      unfold pv_beat
      rw [upd_same, upd_ne (by omega), upd_same]
      exact ⟨rfl, rfl⟩
    · have es : pv_s (pv_beat i v) k = pv_s v k := by
        unfold pv_s
        rw [pv_beat_ne (by omega) (by omega), pv_beat_ne (by omega) (by omega)]
      have := ih (i + 1) (pv_beat i v) (by omega) (by omega)
      rw [es] at this
      exact this
theorem slips_out : ∀ (c i : Nat) (q : pV × Int32) (p : Nat), (p < 54 + 10 * i + 4 ∨ 54 + 10 * (i + c) ≤ p) → (mi_lp pv_slips c i q).1 p = q.1 p := by
  intro c
  induction c with
  | zero => intro i q p _; rfl
  | succ c ih =>
    intro i q p h
    rw [mi_lp_S, ih (i + 1) _ p (by omega)]
    exact pv_slip_ne (by omega)
theorem slips_f {k f : Nat} (hf : f < 4) : ∀ (c i : Nat) (q : pV × Int32), (mi_lp pv_slips c i q).1 (54 + 10 * k + f) = q.1 (54 + 10 * k + f) := by
  intro c
  induction c with
  | zero => intro i q; rfl
  | succ c ih =>
    intro i q
    rw [mi_lp_S, ih (i + 1) _]
    exact pv_slip_ne (by omega)
theorem slips_at {l : Nat} : ∀ (c i : Nat) (q : pV × Int32), i ≤ l → l < i + c → ∃ u : pV, (∀ p, p < 54 → u p = q.1 p) ∧ (∀ f, f < 10 → u (54 + 10 * l + f) = q.1 (54 + 10 * l + f)) ∧ ∀ f, f < 10 → (mi_lp pv_slips c i q).1 (54 + 10 * l + f) = (pv_slip l u).1 (54 + 10 * l + f) := by
  intro c
  induction c with
  | zero => intro i q h1 h2; omega
  | succ c ih =>
    intro i q h1 h2
    rw [mi_lp_S]
    by_cases e : i = l
    · subst e
      refine ⟨q.1, fun _ _ => rfl, fun _ _ => rfl, fun f hf => ?_⟩
      rw [slips_out c (i + 1) _ _ (by omega)]
      rfl
    · obtain ⟨u, u1, u2, u3⟩ := ih (i + 1) (pv_slips i q) (by omega) (by omega)
      exact ⟨u, fun p hp => (u1 p hp).trans (pv_slip_ne (by omega)), fun f hf => (u2 f hf).trans (pv_slip_ne (by omega)), u3⟩
def pv_g (v : pV) (l : Nat) : Int32 := v (54 + 10 * l + 4) + (pv_s v (pv_fr v l) / 100 - pv_s v (pv_to v l) / 100)
theorem g_ring (x a b : Int32) : x + (8 + a) - (8 + b) = x + (a - b) := by
  rw [Int32.sub_eq_add_neg, Int32.sub_eq_add_neg, Int32.neg_add, Int32.add_assoc, Int32.add_comm 8 a, Int32.add_assoc a 8, Int32.sub_eq_add_neg (-8) b, ← Int32.add_assoc 8 (-8) (-b), show (8 : Int32) + -8 = 0 from by decide, Int32.zero_add]
theorem tick_p {n m p : Nat} {v : pV} (hp : p ≠ 3) : (pv_tick n m v).1 p = (mi_lp pv_slips m 0 (mi_lp pv_beat n 0 v, 0)).1 p := upd_ne hp
section TL
variable {n m T : Nat} {v : pV} {l : Nat}
theorem tick_nd (hn : n ≤ 6) {i f : Nat} (hi : i < n) : (pv_tick n m v).1 (6 + 8 * i + f) = if f < 8 then (if f = 6 then pv_s v i - pv_s v i / 100 * 100 else if f = 7 then 8 + pv_s v i / 100 else v (6 + 8 * i + f)) else (pv_tick n m v).1 (6 + 8 * i + f) := by
  by_cases hf : f < 8
  · rw [if_pos hf]
    rw [tick_p (by omega), slips_out m 0 _ _ (by omega)]
    obtain ⟨b1, b2⟩ := beats_at (k := i) n 0 v (by omega) (by omega)
    by_cases e6 : f = 6
    · rw [if_pos e6, e6]; exact b1
    · rw [if_neg e6]
      by_cases e7 : f = 7
      · rw [if_pos e7, e7]; exact b2
      · rw [if_neg e7]
        exact beats_out n 0 v _ (fun k h1 h2 => by omega)
  · rw [if_neg hf]
theorem tick_6 (hn : n ≤ 6) {i : Nat} (hi : i < n) : (pv_tick n m v).1 (6 + 8 * i + 6) = pv_s v i - pv_s v i / 100 * 100 := by
  rw [tick_nd hn hi]; rfl
theorem tick_2 (hn : n ≤ 6) {i : Nat} (hi : i < n) : (pv_tick n m v).1 (6 + 8 * i + 2) = v (6 + 8 * i + 2) := by
  rw [tick_nd hn hi]; rfl
theorem tick_lo {p : Nat} (hp : p < 3) : (pv_tick n m v).1 p = v p := by
  rw [tick_p (by omega), slips_out m 0 _ _ (by omega)]
  exact beats_out n 0 v _ (fun k h1 h2 => by omega)
theorem tick_lf (hn : n ≤ 6) {f : Nat} (hf : f < 4) : (pv_tick n m v).1 (54 + 10 * l + f) = v (54 + 10 * l + f) := by
  rw [tick_p (by omega), slips_f hf m 0 _]
  exact beats_out n 0 v _ (fun k h1 h2 => by omega)
/-- what a tick does to a link -/
theorem tick_lk (wf : pv_wf n m T v) (hl : l < m) : ∃ u : pV, u 0 = v 0 ∧ pv_f0 u l = pv_g v l ∧ (∀ f, f < 10 → u (54 + 10 * l + f) = v (54 + 10 * l + f)) ∧ ∀ f, f < 10 → (pv_tick n m v).1 (54 + 10 * l + f) = (pv_slip l u).1 (54 + 10 * l + f) := by
  have hn := wf.2.2.1
  obtain ⟨u, u1, u2, u3⟩ := slips_at (l := l) m 0 (mi_lp pv_beat n 0 v, 0) (by omega) (by omega)
  have u2' : ∀ f, f < 10 → u (54 + 10 * l + f) = v (54 + 10 * l + f) := fun f hf => (u2 f hf).trans (beats_out n 0 v _ (fun k h1 h2 => by omega))
  obtain ⟨ha, -⟩ := wf.fr hl
  obtain ⟨hb, -⟩ := wf.to hl
  have efr : pv_fr u l = pv_fr v l := by unfold pv_fr; rw [u2' 0 (by decide)]
  have eto : pv_to u l = pv_to v l := by unfold pv_to; rw [u2' 1 (by decide)]
  refine ⟨u, (u1 0 (by decide)).trans (beats_out n 0 v _ (fun k h1 h2 => by omega)), ?_, u2', fun f hf => ?_⟩
  · unfold pv_f0 pv_g
    rw [efr, eto, u2' 4 (by decide), u1 _ (by omega), u1 _ (by omega)]
    rw [show (mi_lp pv_beat n 0 v, (0 : Int32)).1 (6 + 8 * pv_fr v l + 7) = _ from (beats_at (k := pv_fr v l) n 0 v (by omega) (by omega)).2, show (mi_lp pv_beat n 0 v, (0 : Int32)).1 (6 + 8 * pv_to v l + 7) = _ from (beats_at (k := pv_to v l) n 0 v (by omega) (by omega)).2]
    exact g_ring _ _ _
  · rw [← u3 f hf]
    rw [tick_p (by omega)]
theorem tick_in (wf : pv_wf n m T v) (hl : l < m) (h : pv_in (pv_g v l) 0 (2 * v 0) = true) : (pv_tick n m v).1 (54 + 10 * l + 4) = pv_g v l ∧ (pv_tick n m v).1 (54 + 10 * l + 5) = v (54 + 10 * l + 5) ∧ (pv_tick n m v).1 (54 + 10 * l + 6) = v (54 + 10 * l + 6) := by
  obtain ⟨u, u0, ug, uf, ut⟩ := tick_lk wf hl
  unfold pv_in at h
  rw [decide_eq_true_eq] at h
  obtain ⟨h1, h2⟩ := h
  have e : pv_slip l u = (pv_bey u l (u 0) (pv_f0 u l), 0) := by
    unfold pv_slip
    rw [if_pos (by rw [ug, u0]; exact Int32.not_lt.mp h2), if_pos (by rw [ug]; exact Int32.not_lt.mp h1)]
  rw [ut 4 (by decide), ut 5 (by decide), ut 6 (by decide), e]
  exact ⟨pv_bey_4.trans ug, (pv_bey_ne (by omega) (by omega) (by omega) (by omega)).trans (uf 5 (by decide)), (pv_bey_ne (by omega) (by omega) (by omega) (by omega)).trans (uf 6 (by decide))⟩
theorem tick_no (wf : pv_wf n m T v) (hl : l < m) (h : ¬ pv_in (pv_g v l) 0 (2 * v 0) = true) : ((pv_tick n m v).1 (54 + 10 * l + 5) = v (54 + 10 * l + 5) ∧ (pv_tick n m v).1 (54 + 10 * l + 6) = v (54 + 10 * l + 6) + 1) ∨ ((pv_tick n m v).1 (54 + 10 * l + 5) = v (54 + 10 * l + 5) + 1 ∧ (pv_tick n m v).1 (54 + 10 * l + 6) = v (54 + 10 * l + 6)) := by
  obtain ⟨u, u0, ug, uf, ut⟩ := tick_lk wf hl
  rw [ut 5 (by decide), ut 6 (by decide), ← uf 5 (by decide), ← uf 6 (by decide)]
  rcases pv_slip_56 (v := u) (l := l) with ⟨z, -, -⟩ | ⟨-, y1, y2⟩ | ⟨-, y1, y2⟩
  · exfalso
    apply h
    unfold pv_in
    rw [decide_eq_true_eq, ← ug, ← u0]
    unfold pv_slip at z
    by_cases c1 : pv_f0 u l ≤ 2 * u 0
    · rw [if_pos c1] at z
      by_cases c2 : 0 ≤ pv_f0 u l
      · exact ⟨Int32.not_lt.mpr c2, Int32.not_lt.mpr c1⟩
      · rw [if_neg c2] at z
        exact absurd (show (1 : Int32) = 0 from z) (by decide)
    · rw [if_neg c1] at z
      exact absurd (show (1 : Int32) = 0 from z) (by decide)
  · exact Or.inl ⟨y1, y2⟩
  · exact Or.inr ⟨y1, y2⟩
end TL
def pv_till (n m l : Nat) : Nat → Nat → pV → Int32
  | 0, _, _ => -1001
  | c + 1, k, v => if pv_in (pv_g v l) 0 (2 * v 0) = true then pv_till n m l c (k + 1) (pv_tick n m v).1 else nI k
theorem pv_till_S (n m l c k : Nat) (v : pV) : pv_till n m l (c + 1) k v = if pv_in (pv_g v l) 0 (2 * v 0) = true then pv_till n m l c (k + 1) (pv_tick n m v).1 else nI k := rfl
theorem cg_till {n m l : Nat} (hl : l < m) : ∀ (c k T : Nat) (v w : pV), pv_wf n m T v → pv_eq n m v w → T + m * c < 2000000000 → pv_till n m l c k v = pv_till n m l c k w := by
  intro c
  induction c with
  | zero => intro k T v w _ _ _; rfl
  | succ c ih =>
    intro k T v w wf he hT
    have h1 : m * (c + 1) = m * c + m := Nat.mul_succ m c
    obtain ⟨ha, -⟩ := wf.fr hl
    obtain ⟨hb, -⟩ := wf.to hl
    have eg : pv_g v l = pv_g w l := by
      unfold pv_g
      rw [← cg_fr he hl, ← cg_to he hl, cg_s he ha, cg_s he hb, he.lk hl (by decide)]
    rw [pv_till_S, pv_till_S, eg, he.lo (show 0 < 6 by decide), ih (k + 1) (T + m) _ _ (pv_tick_wf wf (by omega)) (cg_tick wf he (by omega)).1 (by omega)]
theorem k_999 : (999 : Int32).toInt = 999 := by decide
theorem k_1000 : (1000 : Int32).toInt = 1000 := by decide
theorem cN_tillL {n m l j a b : Nat} {v0 : pV} {M : mM} (hv : M.1 0 j = v0) (hl : l < m) : ∀ (c k T : Nat) (v : pV), k + c = 1000 → pv_wf n m T v → T + m * c < 2000000000 → pv_fr v l = a → pv_to v l = b → v0 0 = v 0 → v0 (6 + 8 * a + 2) = v (6 + 8 * a + 2) → v0 (6 + 8 * b + 2) = v (6 + 8 * b + 2) → fN_ticksTillSlip_L38 j a b (v (6 + 8 * a + 6)) (v (6 + 8 * b + 6)) (v (54 + 10 * l + 4)) (nI k) M = some (pv_till n m l c k v, M) := by
  intro c
  induction c with
  | zero =>
    intro k T v hk wf hT ea eb e0 e1 e2
    rw [fN_ticksTillSlip_L38_eq, if_pos (by rw [i_lt, i_nI (by omega), k_999]; omega)]
    rfl
  | succ c ih =>
    intro k T v hk wf hT ea eb e0 e1 e2
    have h1 : m * (c + 1) = m * c + m := Nat.mul_succ m c
    have hn := wf.2.2.1
    obtain ⟨ha, -⟩ := wf.fr hl
    obtain ⟨hb, -⟩ := wf.to hl
    rw [ea] at ha
    rw [eb] at hb
    rw [fN_ticksTillSlip_L38_eq, if_neg (by rw [i_lt, i_nI (by omega), k_999]; omega), ix_2_8, Option.bind_some, Option.bind_some, ix_0_3, Option.bind_some, hv, e1, e2, Nat.add_zero, e0, cX_isWithin, Option.bind_some]
    simp only
    have eg : v (54 + 10 * l + 4) + ((v (6 + 8 * a + 6) + v (6 + 8 * a + 2)) / 100 - (v (6 + 8 * b + 6) + v (6 + 8 * b + 2)) / 100) = pv_g v l := by
      unfold pv_g pv_s
      rw [ea, eb]
    rw [eg, pv_till_S]
    by_cases hc : pv_in (pv_g v l) 0 (2 * v 0) = true
    · rw [pv_bt hc, if_pos (by decide), if_pos hc, nI_1]
      obtain ⟨t4, -, -⟩ := tick_in wf hl hc
      have q := ih (k + 1) (T + m) (pv_tick n m v).1 (by omega) (pv_tick_wf wf (by omega)) (by omega) (by unfold pv_fr; rw [tick_lf hn (by decide)]; exact ea) (by unfold pv_to; rw [tick_lf hn (by decide)]; exact eb) (by rw [tick_lo (by decide)]; exact e0) (by rw [tick_2 hn ha]; exact e1) (by rw [tick_2 hn hb]; exact e2)
      rw [tick_6 hn ha, tick_6 hn hb, t4] at q
      exact q
    · rw [pv_bf hc, if_neg (by decide), if_neg hc]
theorem cM_till95 {M : mM} {x : Int32} : ∃ u : pV, (∀ p, p < 154 → u p = M.1 37 0 p) ∧ fM_till_L95 x M = some (x, mi_pv M 30 0 u) := by
  obtain ⟨u, u1, u2⟩ := cM_takeB (M := M)
  exact ⟨u, u1, by rw [fM_till_L95_eq, u2]; rfl⟩
theorem cM_tillL {n m l : Nat} (hl : l < m) {had : Int32} : ∀ (c k T : Nat) (v : pV) (M : mM), k + c = 1000 → M.1 30 0 = v → pv_wf n m T v → T + m * c < 2000000000 → v (54 + 10 * l + 5) + v (54 + 10 * l + 6) = had → ∃ u : pV, (∀ p, p < 154 → u p = M.1 37 0 p) ∧ fM_till_L42 (nI l) had (-1001) (nI k) M = some (pv_till n m l c k v, mi_pv M 30 0 u) := by
  intro c
  induction c with
  | zero =>
    intro k T v M hk hv wf hT hh
    rw [fM_till_L42_eq, if_pos (by rw [i_le, i_nI (by omega), k_1000]; omega)]
    exact cM_till95
  | succ c ih =>
    intro k T v M hk hv wf hT hh
    have h1 : m * (c + 1) = m * c + m := Nat.mul_succ m c
    have hn := wf.2.2.1
    have hm := wf.2.2.2.1
    have wt := pv_tick_wf wf (by omega : T + m < 2000000000)
    rw [fM_till_L42_eq, if_neg (by rw [i_le, i_nI (by omega), k_1000]; omega), if_neg (fun z => z rfl), cM_tick hv wf (by omega), Option.bind_some]
    simp only
    rw [show fM_linkAt (nI l) 5 (mi_pv M 30 0 (pv_tick n m v).1) = _ from cM_linkAt (mi_pv_at _ _ _ _) (w := 5) (by omega) (by decide), Option.bind_some]
    simp only
    rw [show fM_linkAt (nI l) 6 (mi_pv M 30 0 (pv_tick n m v).1) = _ from cM_linkAt (mi_pv_at _ _ _ _) (w := 6) (by omega) (by decide), Option.bind_some, pv_till_S]
    simp only
    have h37 : ∀ u : pV, (mi_pv M 30 0 u).1 37 0 = M.1 37 0 := fun u => mi_pv_net (by decide)
    by_cases hc : pv_in (pv_g v l) 0 (2 * v 0) = true
    · obtain ⟨-, t5, t6⟩ := tick_in wf hl hc
      obtain ⟨u, u1, u2⟩ := ih (k + 1) (T + m) (pv_tick n m v).1 (mi_pv M 30 0 (pv_tick n m v).1) (by omega) (mi_pv_at _ _ _ _) wt (by omega) (by rw [t5, t6]; exact hh)
      refine ⟨u, fun p hp => by rw [u1 p hp, h37], ?_⟩
      rw [if_pos hc, t5, t6, hh, if_pos (Int32.le_refl _), nI_1, u2, mi_pv_pv]
    · have hgt : ¬ ((pv_tick n m v).1 (54 + 10 * l + 5) + (pv_tick n m v).1 (54 + 10 * l + 6) ≤ had) := by
        obtain ⟨-, -, -, -, -, z1, z2, z3⟩ := wf.2.2.2.2.2.2.2.2 l hl
        rw [← hh]
        rcases tick_no wf hl hc with ⟨t5, t6⟩ | ⟨t5, t6⟩ <;> rw [t5, t6, i_le]
        · have x1 : (v (54 + 10 * l + 6) + 1).toInt = (v (54 + 10 * l + 6)).toInt + 1 := by rw [i_add (by rw [k_1]; omega) (by rw [k_1]; omega), k_1]
          rw [i_add (by rw [x1]; omega) (by rw [x1]; omega), x1, i_add (by omega) (by omega)]
          omega
        · have x1 : (v (54 + 10 * l + 5) + 1).toInt = (v (54 + 10 * l + 5)).toInt + 1 := by rw [i_add (by rw [k_1]; omega) (by rw [k_1]; omega), k_1]
          rw [i_add (by rw [x1]; omega) (by rw [x1]; omega), x1, i_add (by omega) (by omega)]
          omega
      rw [if_neg hc, if_neg hgt, fM_till_L42_eq, if_pos (nI_nNONE k (by omega))]
      obtain ⟨u, u1, u2⟩ := cM_till95 (M := mi_pv M 30 0 (pv_tick n m v).1) (x := nI k)
      refine ⟨u, fun p hp => by rw [u1 p hp, h37], ?_⟩
      rw [u2, mi_pv_pv]
      split <;> rfl
theorem ok_till (a : Int32) : Okc (fX_till a) (fM_till a) := by
  intro T M hT ⟨d, t, n, m, v, w, sv, sw, rf, tx, ty, h⟩
  obtain ⟨h1, h2, h3, h4, h5, h6, h7, h8⟩ := id h
  obtain ⟨h54, h55, hn, hm, -⟩ := id h5
  have hv : M.1 0 (M.2.1 0) = v := h3.2.2.1
  have hw : M.1 30 0 = w := h4.2.1
  have eM : ∀ M1 : mM, M1.1 30 0 = w → fM_isLink a M1 = some (pv_b (pv_isn m a), M1) := fun M1 q => cM_isLink q (by rw [← h6.lo (by decide)]; exact h55) hm a
  have hmc : m * 999 ≤ 9990 := Nat.mul_le_mul hm (Nat.le_refl 999)
  by_cases c1 : pv_isn m a = true
  · obtain ⟨l, hl, rfl⟩ := pv_isn_of c1 (by omega)
    obtain ⟨ha, ea⟩ := h5.fr hl
    obtain ⟨hb, eb⟩ := h5.to hl
    obtain ⟨H, hH, e1⟩ := cM_lay (M := M)
    obtain ⟨u, u1, u2⟩ := cM_tillL (n := n) hl 999 1 T w (mi_pv M 37 0 H) (by omega) (by rw [mi_pv_net (by decide)]; exact hw) (h6.wf h5) (by omega) rfl
    have f1 : frM M (mi_pv (mi_pv M 37 0 H) 30 0 u) := (frM.pv (by decide) (by decide)).tr (frM.pv (by decide) (by decide))
    have hM2 : Mst (mi_pv (mi_pv M 37 0 H) 30 0 u) d u sw rf ty t := by
      obtain ⟨x1, x2, x3, x4, x5, x6⟩ := h4
      have other : ∀ t', t' ≠ 30 → t' ≠ 37 → (mi_pv (mi_pv M 37 0 H) 30 0 u).1 t' = M.1 t' := fun t' a b => by rw [mi_pv_t a, mi_pv_t b]
      refine ⟨?_, mi_pv_at _ _ _ _, fun k hk p hp => ?_, fun i hi => ?_, ?_, ?_⟩
      · rw [other 41 (by decide) (by decide)]; exact x1
      · rw [other 32 (by decide) (by decide)]; exact x3 k hk p hp
      · rw [other 33 (by decide) (by decide)]; exact x4 i hi
      · rw [other 41 (by decide) (by decide)]; exact x5
      · rw [other 38 (by decide) (by decide)]; exact x6
    refine ⟨pv_till n m l 999 1 v, M, _, ?_, ?_, h.get h3 f1 hM2 (fun p hp => by rw [u1 p hp, mi_pv_at, hH p hp, hw]), frC.rf M, f1⟩
    · rw [fX_till_eq, cN_hasLink hv h55 hm, pv_bt c1, Option.bind_some]
      simp only
      rw [if_pos (by decide), mi_ix_n (by omega) (by decide), Option.bind_some, fN_ticksTillSlip_eq]
      simp only [ix_0_10, ix_1_10, ix_4_10, ix_6_8, Option.bind_some, hv, ea, eb, mi_ix_n (by omega : pv_fr v l < 6) (by decide), mi_ix_n (by omega : pv_to v l < 6) (by decide)]
      rw [show fN_ticksTillSlip_L38 (M.2.1 0) (pv_fr v l) (pv_to v l) (v (6 + 8 * pv_fr v l + 6)) (v (6 + 8 * pv_to v l + 6)) (v (54 + 10 * l + 4)) 1 M = _ from cN_tillL (n := n) hv hl 999 1 T v (by omega) h5 (by omega) rfl rfl rfl rfl rfl]
      rfl
    · rw [fM_till_eq, eM M hw, pv_bt c1, Option.bind_some]
      simp only
      rw [if_pos (by decide), e1, Option.bind_some]
      rw [show fM_linkAt (nI l) 5 (mi_pv M 37 0 H) = _ from cM_linkAt (v := w) (by rw [mi_pv_net (by decide)]; exact hw) (w := 5) (by omega) (by decide), Option.bind_some]
      simp only
      rw [show fM_linkAt (nI l) 6 (mi_pv M 37 0 H) = _ from cM_linkAt (v := w) (by rw [mi_pv_net (by decide)]; exact hw) (w := 6) (by omega) (by decide), Option.bind_some]
      simp only
      rw [cg_till hl 999 1 T v w h5 h6 (by omega)]
      exact u2
  · obtain ⟨M1, M2, a1, a2, a3, a4, a5⟩ := h.no (a := -1002) (Or.inl rfl)
    refine ⟨-1002, M1, M2, ?_, ?_, a3, a4, a5⟩
    · rw [fX_till_eq, cN_hasLink hv h55 hm, pv_bf c1, Option.bind_some]
      simp only
      rw [if_neg (by decide), a1]; rfl
    · rw [fM_till_eq, eM M1 (by rw [a4.1 30 (by decide)]; exact hw), pv_bf c1, Option.bind_some]
      simp only
      rw [if_neg (by decide), a2]; rfl
