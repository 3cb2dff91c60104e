/-! PURE: the orders looks and ticks -/
theorem mi_pv3 (M : mM) (t1 j1 t2 j2 t3 j3 : Nat) (K F u K' F' u' : pV) : mi_pv (mi_pv (mi_pv (mi_pv (mi_pv (mi_pv M t1 j1 K) t2 j2 F) t3 j3 u) t1 j1 K') t2 j2 F') t3 j3 u' = mi_pv (mi_pv (mi_pv M t1 j1 K') t2 j2 F') t3 j3 u' := by
  unfold mi_pv
  refine congrArg (fun D => ((D, M.2.1, M.2.2) : mM)) (funext fun a => funext fun b => ?_)
  unfold mi_up
  by_cases h3 : a = t3 ∧ b = j3
  · simp only [h3, and_self, if_true]
  · simp only [h3, if_false]
    by_cases h2 : a = t2 ∧ b = j2
    · simp only [h2, and_self, if_true]
    · simp only [h2, if_false]
      by_cases h1 : a = t1 ∧ b = j1
      · simp only [h1, and_self, if_true]
      · simp only [h1, if_false]
def pv_ref (n : Nat) (v : pV) : Int32 := mi_lp (fun i c => if v (6 + 8 * i + 3) = -1001 then c else c + 1) n 0 0
def pv_lk (n m : Nat) (v : pV) : pV := pv_lkp n m v (4 * n)
def pv_lks (n m : Nat) : Nat → pV → pV
  | 0, v => v
  | c + 1, v => pv_lks n m c (pv_lk n m v)
def pv_looks (n m : Nat) (v : pV) (a : Int32) : Int32 × pV := if pv_in a 1 60 = true then (pv_ref n (pv_lks n m a.toNatClampNeg v), pv_lks n m a.toNatClampNeg v) else (-1002, v)
def pv_tks (n m : Nat) : Nat → pV × Int32 → pV × Int32
  | 0, q => q
  | c + 1, q => pv_tks n m c ((pv_tick n m q.1).1, q.2 + (pv_tick n m q.1).2)
def pv_ticks (n m : Nat) (v : pV) (a : Int32) : Int32 × pV := if pv_in a 1 200 = true then ((pv_tks n m a.toNatClampNeg (v, 0)).2, (pv_tks n m a.toNatClampNeg (v, 0)).1) else (-1002, v)
theorem pv_lp_off {v : pV} {i : Nat} : ∀ (c l : Nat) (f : Int32), l + c < 2147483648 → (f = -1001 ∨ ∃ k, k < l ∧ f = nI k ∧ pv_off v k = true) → mi_lp (pv_tk v i) c l f = -1001 ∨ ∃ k, k < l + c ∧ mi_lp (pv_tk v i) c l f = nI k ∧ pv_off v k = true
  | 0, l, f, hb, h => h
  | c + 1, l, f, hb, h => by
    have h2 : pv_tk v i l f = -1001 ∨ ∃ k, k < l + 1 ∧ pv_tk v i l f = nI k ∧ pv_off v k = true := by
      unfold pv_tk
      split
      · next hc => exact Or.inr ⟨l, by omega, rfl, hc.2.1⟩
      · rcases h with h | ⟨k, hk, h⟩
        · exact Or.inl h
        · exact Or.inr ⟨k, by omega, h⟩
    have := pv_lp_off (v := v) (i := i) c (l + 1) (pv_tk v i l f) (by omega) h2
    rw [show l + (c + 1) = l + 1 + c by omega]
    exact this
theorem pv_take_off {m : Nat} {v : pV} {i : Nat} (hm : m ≤ 10) : pv_take m v i = -1001 ∨ ∃ k, k < m ∧ pv_take m v i = nI k ∧ pv_off v k = true := by
  have := pv_lp_off (v := v) (i := i) m 0 (-1001) (by omega) (Or.inl rfl)
  rwa [Nat.zero_add] at this
section PC
variable {n m T : Nat} {v : pV} {j : Nat}
theorem pv_lf_wf (wf : pv_wf n m T v) {i : Nat} (hi : i < n) : (0 ≤ (pv_lf m v i 0).toInt ∧ (pv_lf m v i 0).toInt ≤ 9) ∧ (0 ≤ (pv_lf m v i 1).toInt ∧ (pv_lf m v i 1).toInt ≤ 9) ∧ (-99 ≤ (pv_lf m v i 2).toInt ∧ (pv_lf m v i 2).toInt ≤ 99) ∧ (pv_lf m v i 3 = -1001 ∨ ∃ l, l < m ∧ pv_lf m v i 3 = nI l) := by
  have hm := wf.2.2.2.1
  obtain ⟨x1, x2, x3, x4, x5, x6, x7⟩ := wf.2.2.2.2.2.2.2.1 i hi
  rcases pv_take_off (v := v) (i := i) hm with e | ⟨k, hk, e, ho⟩
  · have l0 : pv_lf m v i 0 = v (6 + 8 * i + 4) := by unfold pv_lf; rw [e]; rfl
    have l1 : pv_lf m v i 1 = 0 := by unfold pv_lf; rw [e]; rfl
    have l2 : pv_lf m v i 2 = v (6 + 8 * i + 5) := by unfold pv_lf; rw [e]; rfl
    have l3 : pv_lf m v i 3 = -1001 := by unfold pv_lf; rw [e]; rfl
    rw [l0, l1, l2, l3]
    exact ⟨x5, by decide, x6, Or.inl rfl⟩
  · have hne : ¬ pv_take m v i = -1001 := by rw [e]; exact nI_nNONE k (by omega)
    obtain ⟨ha, -⟩ := wf.fr hk
    obtain ⟨y1, y2, y3, -⟩ := wf.2.2.2.2.2.2.2.1 _ ha
    have hh := pv_off_i wf ho
    have k1 : (1 : Int32).toInt = 1 := by decide
    have lw : ∀ w, ¬ w = 3 → pv_lf m v i w = pv_of v k w := fun w hw => by
      unfold pv_lf
      rw [if_neg hw, if_neg hne, e, nI_clp k (by omega)]
    have l3 : pv_lf m v i 3 = nI k := by unfold pv_lf; rw [if_pos rfl, e]
    rw [lw 0 (by decide), lw 1 (by decide), lw 2 (by decide), l3]
    refine ⟨y1, ?_, y3, Or.inr ⟨k, hk, rfl⟩⟩
    show 0 ≤ (v (6 + 8 * pv_fr v k + 1) + 1).toInt ∧ (v (6 + 8 * pv_fr v k + 1) + 1).toInt ≤ 9
    rw [i_add (by rw [k1]; omega) (by rw [k1]; omega), k1]
    omega
theorem pv_lk_wf (wf : pv_wf n m T v) : pv_wf n m T (pv_lk n m v) := by
  have hn := wf.2.2.1
  have hf := fun i hi => pv_lf_wf wf (i := i) hi
  obtain ⟨a, b, c, d, e, f, g, wN, wL⟩ := wf
  have lo : ∀ p, p < 6 → pv_lk n m v p = v p := fun p hp => pv_lkp_lo hp
  refine ⟨by rw [lo 4 (by decide)]; exact a, by rw [lo 5 (by decide)]; exact b, c, d, by rw [lo 0 (by decide)]; exact e, by rw [lo 1 (by decide)]; exact f, by rw [lo 2 (by decide)]; exact g, fun k hk => ?_, fun l hl => pv_wfL_c (lo 0 (by decide)) (fun w hw => pv_lkp_hi hn (by omega)) (Nat.le_refl _) (wL l hl)⟩
  obtain ⟨x1, x2, x3, x4, x5, x6, x7⟩ := wN k hk
  obtain ⟨y1, y2, y3, y4⟩ := hf k hk
  unfold pv_wfN pv_lk
  rw [pv_lkp_lt hk (by decide) (by omega), pv_lkp_lt hk (by decide) (by omega), pv_lkp_lt hk (by decide) (by omega), pv_lkp_lt hk (by decide) (by omega), pv_lkp_own (by decide) (by decide), pv_lkp_own (by decide) (by decide), pv_lkp_own (by decide) (by decide)]
  exact ⟨y1, y2, y3, y4, x5, x6, x7⟩
theorem pv_lks_wf : ∀ (c : Nat) (v : pV), pv_wf n m T v → pv_wf n m T (pv_lks n m c v)
  | 0, v, wf => wf
  | c + 1, v, wf => pv_lks_wf c _ (pv_lk_wf wf)
theorem pv_tks_wf : ∀ (c T : Nat) (q : pV × Int32), pv_wf n m T q.1 → T + m * c < 2000000000 → pv_wf n m (T + m * c) (pv_tks n m c q).1
  | 0, T, q, wf, hT => by rw [Nat.mul_zero, Nat.add_zero]; exact wf
  | c + 1, T, q, wf, hT => by
    have h1 : m * (c + 1) = m * c + m := Nat.mul_succ m c
    have := pv_tks_wf c (T + m) ((pv_tick n m q.1).1, q.2 + (pv_tick n m q.1).2) (pv_tick_wf wf (by omega)) (by omega)
    rw [show T + m * (c + 1) = T + m + m * c by omega]
    exact this
theorem cN_ref {M : mM} (hv : M.1 0 j = v) (h4 : v 4 = nI n) (hn : n ≤ 6) : fN_followerCount j M = some (pv_ref n v, M) := by
  have L : ∀ (c i : Nat) (x : Int32), i + c = n → fN_followerCount_L4 j x (nI i) M = some (mi_lp (fun i c => if v (6 + 8 * i + 3) = -1001 then c else c + 1) c i x, M) := by
    intro c
    induction c with
    | zero =>
      intro i x hi
      rw [fN_followerCount_L4_eq, hv, h4, if_pos (nI_le (by omega) (by omega))]
      rfl
    | succ c ih =>
      intro i x hi
      rw [fN_followerCount_L4_eq, hv, h4, if_neg (nI_ge (by omega) (by omega))]
      simp only [mi_ix_n (by omega : i < 6) (by decide), ix_3_8, Option.bind_some, nI_1]
      rw [mi_lp]
      by_cases h : v (6 + 8 * i + 3) = -1001
      · rw [if_pos h, if_pos h, ih (i + 1) _ (by omega)]
      · rw [if_neg h, if_neg h, ih (i + 1) _ (by omega)]
  rw [fN_followerCount_eq]
  exact L n 0 0 (by omega)
theorem cM_ref {M : mM} (hv : M.1 30 0 = v) (h4 : v 4 = nI n) (hn : n ≤ 6) : fM_referred M = some (pv_ref n v, M) := by
  have L : ∀ (c i : Nat) (x : Int32), i + c = n → fM_referred_L4 x (nI i) M = some (mi_lp (fun i c => if v (6 + 8 * i + 3) = -1001 then c else c + 1) c i x, M) := by
    intro c
    induction c with
    | zero =>
      intro i x hi
      rw [fM_referred_L4_eq]
      simp only [ix_4_154, Option.bind_some, Nat.zero_add, hv, h4]
      rw [if_pos (nI_le (by omega) (by omega))]
      rfl
    | succ c ih =>
      intro i x hi
      rw [fM_referred_L4_eq]
      simp only [ix_4_154, Option.bind_some, Nat.zero_add, hv, h4]
      rw [if_neg (nI_ge (by omega) (by omega))]
      rw [show fM_nodeAt (nI i) 3 M = _ from cM_nodeAt hv (w := 3) (by omega) (by decide)]
      simp only [Option.bind_some, nI_1, Int32.add_zero]
      rw [mi_lp]
      by_cases h : v (6 + 8 * i + 3) = -1001
      · rw [if_neg (fun z => z h), if_pos h, ih (i + 1) _ (by omega)]
      · rw [if_pos h, if_neg h, ih (i + 1) _ (by omega)]
  rw [fM_referred_eq]
  exact L n 0 0 (by omega)
theorem cN_looksL {N : Nat} (hN : N < 1000) : ∀ (c k : Nat) (v : pV) (M : mM), M.1 0 j = v → pv_wf n m T v → k + c = N → ∃ K F : pV, fN_lookOften_L16 j (nI N) (nI k) M = some (pv_ref n (pv_lks n m c v), mi_pv (mi_pv (mi_pv M 2 j K) 1 j F) 0 j (pv_lks n m c v)) := by
  intro c
  induction c with
  | zero =>
    intro k v M hv wf hk
    refine ⟨M.1 2 j, M.1 1 j, ?_⟩
    rw [fN_lookOften_L16_eq, if_pos (nI_le (by omega) (by omega)), cN_ref hv wf.1 wf.2.2.1, mi_pv_self, mi_pv_self]
    rw [show pv_lks n m 0 v = v from rfl, ← hv, mi_pv_self]
    rfl
  | succ c ih =>
    intro k v M hv wf hk
    obtain ⟨K, F, e⟩ := cN_lookOnce wf hv
    rw [fN_lookOften_L16_eq, if_neg (nI_ge (by omega) (by omega)), e]
    simp only [Option.bind_some, nI_1]
    obtain ⟨K2, F2, e2⟩ := ih (k + 1) (pv_lk n m v) (mi_pv (mi_pv (mi_pv M 2 j K) 1 j F) 0 j (pv_lk n m v)) (mi_pv_at _ _ _ _) (pv_lk_wf wf) (by omega)
    refine ⟨K2, F2, ?_⟩
    rw [mi_pv3] at e2
    exact e2
theorem cM_looksL {N : Nat} (hN : N < 1000) : ∀ (c k : Nat) (v : pV) (M : mM), M.1 30 0 = v → pv_wf n m T v → k + c = N → ∃ A B : pV, fM_doLooks_L16 (nI N) (nI k) M = some (pv_ref n (pv_lks n m c v), mi_pv (mi_pv (mi_pv M 34 0 A) 35 0 B) 30 0 (pv_lks n m c v)) := by
  intro c
  induction c with
  | zero =>
    intro k v M hv wf hk
    refine ⟨M.1 34 0, M.1 35 0, ?_⟩
    rw [fM_doLooks_L16_eq, if_pos (nI_le (by omega) (by omega)), cM_ref hv wf.1 wf.2.2.1, mi_pv_self, mi_pv_self]
    rw [show pv_lks n m 0 v = v from rfl, ← hv, mi_pv_self]
    rfl
  | succ c ih =>
    intro k v M hv wf hk
    obtain ⟨A, B, e⟩ := cM_look wf hv
    rw [fM_doLooks_L16_eq, if_neg (nI_ge (by omega) (by omega)), e]
    simp only [Option.bind_some, nI_1]
    obtain ⟨A2, B2, e2⟩ := ih (k + 1) (pv_lk n m v) (mi_pv (mi_pv (mi_pv M 34 0 A) 35 0 B) 30 0 (pv_lk n m v)) (mi_pv_at _ _ _ _) (pv_lk_wf wf) (by omega)
    refine ⟨A2, B2, ?_⟩
    rw [mi_pv3] at e2
    exact e2
theorem in_nat {a lo hi : Int32} {l h : Nat} (hl : lo.toInt = l) (hh : hi.toInt = h) (hin : pv_in a lo hi = true) : ∃ N, l ≤ N ∧ N ≤ h ∧ a = nI N := by
  rw [pv_in_iff, hl, hh] at hin
  have := a.toInt_lt
  refine ⟨a.toInt.toNat, by omega, by omega, ?_⟩
  rw [i_eq, i_nI (by omega)]
  omega
theorem cN_lookOften {M : mM} (hv : M.1 0 j = v) (wf : pv_wf n m T v) (a : Int32) : ∃ K F : pV, fN_lookOften j a M = some ((pv_looks n m v a).1, mi_pv (mi_pv (mi_pv M 2 j K) 1 j F) 0 j (pv_looks n m v a).2) := by
  rw [fN_lookOften_eq, cX_isWithin]
  simp only [Option.bind_some]
  unfold pv_looks
  by_cases h : pv_in a 1 60 = true
  · obtain ⟨N, h1, h2, rfl⟩ := in_nat (l := 1) (h := 60) (by decide) (by decide) h
    obtain ⟨K, F, e⟩ := cN_looksL (j := j) (n := n) (m := m) (T := T) (N := N) (by omega) N 0 v M hv wf (by omega)
    refine ⟨K, F, ?_⟩
    rw [pv_bt h, if_pos (by decide), if_pos h, nI_clp N (by omega)]
    exact e
  · refine ⟨M.1 2 j, M.1 1 j, ?_⟩
    rw [pv_bf h, if_neg (by decide), if_neg h, mi_pv_self, mi_pv_self, ← hv, mi_pv_self]
theorem cM_doLooks {M : mM} (hv : M.1 30 0 = v) (wf : pv_wf n m T v) (a : Int32) : ∃ A B : pV, fM_doLooks a M = some ((pv_looks n m v a).1, mi_pv (mi_pv (mi_pv M 34 0 A) 35 0 B) 30 0 (pv_looks n m v a).2) := by
  rw [fM_doLooks_eq, cM_in]
  simp only [Option.bind_some]
  unfold pv_looks
  by_cases h : pv_in a 1 60 = true
  · obtain ⟨N, h1, h2, rfl⟩ := in_nat (l := 1) (h := 60) (by decide) (by decide) h
    obtain ⟨A, B, e⟩ := cM_looksL (n := n) (m := m) (T := T) (N := N) (by omega) N 0 v M hv wf (by omega)
    refine ⟨A, B, ?_⟩
    rw [pv_bt h, if_pos (by decide), if_pos h, nI_clp N (by omega)]
    exact e
  · refine ⟨M.1 34 0, M.1 35 0, ?_⟩
    rw [pv_bf h, if_neg (by decide), if_neg h, mi_pv_self, mi_pv_self, ← hv, mi_pv_self]
theorem cN_ticksL {N : Nat} (hN : N < 1000) : ∀ (c k T : Nat) (v : pV) (x : Int32) (M : mM), M.1 0 j = v → pv_wf n m T v → k + c = N → T + m * c < 2000000000 → fN_tickOften_L19 j (nI N) x (nI k) M = some ((pv_tks n m c (v, x)).2, mi_pv M 0 j (pv_tks n m c (v, x)).1) := by
  intro c
  induction c with
  | zero =>
    intro k T v x M hv wf hk hT
    rw [fN_tickOften_L19_eq, if_pos (nI_le (by omega) (by omega))]
    show _ = some (x, mi_pv M 0 j v)
    rw [← hv, mi_pv_self]
  | succ c ih =>
    intro k T v x M hv wf hk hT
    have h1 : m * (c + 1) = m * c + m := Nat.mul_succ m c
    rw [fN_tickOften_L19_eq, if_neg (nI_ge (by omega) (by omega)), cN_tickOnce hv wf (by omega)]
    simp only [Option.bind_some, nI_1]
    rw [ih (k + 1) (T + m) _ _ _ (mi_pv_at _ _ _ _) (pv_tick_wf wf (by omega)) (by omega) (by omega), mi_pv_pv]
    rfl
theorem cM_ticksL {N : Nat} (hN : N < 1000) : ∀ (c k T : Nat) (v : pV) (x : Int32) (M : mM), M.1 30 0 = v → pv_wf n m T v → k + c = N → T + m * c < 2000000000 → fM_doTicks_L19 (nI N) x (nI k) M = some ((pv_tks n m c (v, x)).2, mi_pv M 30 0 (pv_tks n m c (v, x)).1) := by
  intro c
  induction c with
  | zero =>
    intro k T v x M hv wf hk hT
    rw [fM_doTicks_L19_eq, if_pos (nI_le (by omega) (by omega))]
    show _ = some (x, mi_pv M 30 0 v)
    rw [← hv, mi_pv_self]
  | succ c ih =>
    intro k T v x M hv wf hk hT
    have h1 : m * (c + 1) = m * c + m := Nat.mul_succ m c
    rw [fM_doTicks_L19_eq, if_neg (nI_ge (by omega) (by omega)), cM_tick hv wf (by omega)]
    simp only [Option.bind_some, nI_1]
    rw [ih (k + 1) (T + m) _ _ _ (mi_pv_at _ _ _ _) (pv_tick_wf wf (by omega)) (by omega) (by omega), mi_pv_pv]
    rfl
theorem mul_le {m c : Nat} (hm : m ≤ 10) (hc : c ≤ 200) : m * c ≤ 2000 := Nat.mul_le_mul hm hc
theorem cN_tickOften {M : mM} (hv : M.1 0 j = v) (wf : pv_wf n m T v) (hT : T + 2000 < 2000000000) (a : Int32) : fN_tickOften j a M = some ((pv_ticks n m v a).1, mi_pv M 0 j (pv_ticks n m v a).2) := by
  rw [fN_tickOften_eq, cX_isWithin]
  simp only [Option.bind_some]
  unfold pv_ticks
  by_cases h : pv_in a 1 200 = true
  · obtain ⟨N, h1, h2, rfl⟩ := in_nat (l := 1) (h := 200) (by decide) (by decide) h
    rw [pv_bt h, if_pos (by decide), if_pos h, nI_clp N (by omega)]
    have := mul_le wf.2.2.2.1 h2
    exact cN_ticksL (N := N) (by omega) N 0 T v 0 M hv wf (by omega) (by omega)
  · rw [pv_bf h, if_neg (by decide), if_neg h, ← hv, mi_pv_self]
theorem cM_doTicks {M : mM} (hv : M.1 30 0 = v) (wf : pv_wf n m T v) (hT : T + 2000 < 2000000000) (a : Int32) : fM_doTicks a M = some ((pv_ticks n m v a).1, mi_pv M 30 0 (pv_ticks n m v a).2) := by
  rw [fM_doTicks_eq, cM_in]
  simp only [Option.bind_some]
  unfold pv_ticks
  by_cases h : pv_in a 1 200 = true
  · obtain ⟨N, h1, h2, rfl⟩ := in_nat (l := 1) (h := 200) (by decide) (by decide) h
    rw [pv_bt h, if_pos (by decide), if_pos h, nI_clp N (by omega)]
    have := mul_le wf.2.2.2.1 h2
    exact cM_ticksL (N := N) (by omega) N 0 T v 0 M hv wf (by omega) (by omega)
  · rw [pv_bf h, if_neg (by decide), if_neg h, ← hv, mi_pv_self]
end PC
