/-! PURE: the class reads the text -/
def cs (M : mM) (R : pV) (p k : Nat) : mM := mi_pv (mi_pv M 5 0 R) 6 0 (upd (upd (M.1 6 0) 1 (nI p)) 2 (nI k))
def Ct (M : mM) (tx : pV) (t : Nat) : Prop := t ≤ 120 ∧ M.1 6 0 0 = nI t ∧ ∀ k, k < t → M.1 4 0 k = tx k
section CS
variable {M : mM} {R : pV} {p k : Nat}
theorem cs_6 : (cs M R p k).1 6 0 = upd (upd (M.1 6 0) 1 (nI p)) 2 (nI k) := mi_pv_at _ _ _ _
theorem cs_0 : (cs M R p k).1 6 0 0 = M.1 6 0 0 := by rw [cs_6, upd_ne (by decide), upd_ne (by decide)]
theorem cs_1 : (cs M R p k).1 6 0 1 = nI p := by rw [cs_6, upd_ne (by decide), upd_same]
theorem cs_2 : (cs M R p k).1 6 0 2 = nI k := by rw [cs_6, upd_same]
theorem cs_4 : (cs M R p k).1 4 0 = M.1 4 0 := by unfold cs; rw [mi_pv_net (by decide), mi_pv_net (by decide)]
theorem cs_5 : (cs M R p k).1 5 0 = R := by unfold cs; rw [mi_pv_net (by decide), mi_pv_at]
theorem cs_s1 (q : Nat) : mi_set (cs M R p k) 6 0 1 (nI q) = cs M R q k := by
  rw [mi_set_pv, cs_6]
  unfold cs
  rw [mi_pv_pv, upd_comm (f := upd (M.1 6 0) 1 (nI p)) (by decide), upd_upd]
theorem cs_s2 (q : Nat) : mi_set (cs M R p k) 6 0 2 (nI q) = cs M R p q := by
  rw [mi_set_pv, cs_6]
  unfold cs
  rw [mi_pv_pv, upd_upd]
theorem cs_s5 (a : Nat) (x : Int32) : mi_set (cs M R p k) 5 0 a x = cs M (upd R a x) p k := by
  rw [mi_set_pv, cs_5]
  unfold cs
  rw [mi_pv_comm (by decide), mi_pv_pv]
end CS
section CR
variable {M : mM} {tx : pV} {t : Nat}
theorem cS_skL (h : Ct M tx t) (R : pV) (k : Nat) : ∀ (c p : Nat), p + c = t → fS_skipBlanks_L0 (cs M R p k) = some (cs M R (pp_s tx t p) k) := by
  obtain ⟨h1, h2, h3⟩ := h
  intro c
  induction c with
  | zero =>
    intro p hp
    rw [fS_skipBlanks_L0_eq, cs_0, cs_1, h2, if_pos (nI_le (by omega) (by omega)), pp_s_eq, if_neg (fun z => by omega)]
  | succ c ih =>
    intro p hp
    rw [fS_skipBlanks_L0_eq, cs_0, cs_1, h2, if_neg (nI_ge (by omega) (by omega)), mi_ix_n (by omega : p < 120) (by decide), Option.bind_some, cs_4, Nat.zero_add, h3 p (by omega), pp_s_eq]
    by_cases e : tx p = 32
    · rw [if_neg (fun z => z e), if_pos ⟨by omega, e⟩, nI_1, cs_s1]
      exact ih (p + 1) (by omega)
    · rw [if_pos e, if_neg (fun z => e z.2)]
theorem cS_skip (h : Ct M tx t) (R : pV) (k : Nat) {p : Nat} (hp : p ≤ t) : fS_skipBlanks (cs M R p k) = some (cs M R (pp_s tx t p) k) := cS_skL h R k (t - p) p (by omega)
theorem cS_cur (h : Ct M tx t) (R : pV) (k : Nat) {p : Nat} (hp : p ≤ t) : fS_current (cs M R p k) = some (pp_c tx t p, cs M R p k) := by
  obtain ⟨h1, h2, h3⟩ := h
  rw [fS_current_eq, cs_0, cs_1, h2]
  unfold pp_c
  by_cases e : p < t
  · rw [if_neg (nI_ge (by omega) (by omega)), if_pos e, mi_ix_n (by omega : p < 120) (by decide), Option.bind_some, cs_4, Nat.zero_add, h3 p e]
  · rw [if_pos (nI_le (by omega) (by omega)), if_neg e]
theorem cS_fig (x : Int32) (M' : mM) : fS_isFigure x M' = some (pv_b (pv_in x 48 57), M') := by
  rw [fS_isFigure_eq]
  unfold pv_in
  by_cases e1 : x < 48
  · rw [if_pos e1, pv_bf (by simp [e1])]
  · rw [if_neg e1]
    by_cases e2 : 57 < x
    · rw [if_pos e2, pv_bf (by simp [e2])]
    · rw [if_neg e2, pv_bt (by simp [e1, e2])]
theorem pp_c_f (p : Nat) : pv_in (pp_c tx t p) 48 57 = pp_f tx t p := by
  unfold pp_c pp_f
  by_cases e : p < t
  · rw [if_pos e]
    cases pv_in (tx p) 48 57 <;> simp [e]
  · rw [if_neg e, decide_eq_false (fun z => e z.1)]
    decide
theorem pp_c_lt {p : Nat} (h : pp_f tx t p = true) : pp_c tx t p = tx p := by
  unfold pp_c
  rw [if_pos (pp_f_lt h)]
theorem cS_dig (h : Ct M tx t) (R : pV) (k i : Nat) (s b : Int32) : ∀ (c f p : Nat) (v : Int32), f + c = 3 → p ≤ t → fS_readNumber_L41 i b s (nI f) v (cs M R p k) = fS_readNumber_L88 i b s (nI (f + ((pp_dg tx t c p v).1 - p))) (pp_dg tx t c p v).2 (cs M R (pp_dg tx t c p v).1 k) := by
  intro c
  induction c with
  | zero =>
    intro f p v hf hp
    rw [fS_readNumber_L41_eq, if_pos (show (3 : Int32) ≤ nI f from lit_le (k := 3) (by omega) (by omega))]
    show _ = fS_readNumber_L88 i b s (nI (f + (p - p))) v (cs M R p k)
    rw [Nat.sub_self, Nat.add_zero]
  | succ c ih =>
    intro f p v hf hp
    rw [fS_readNumber_L41_eq, if_neg (show ¬ (3 : Int32) ≤ nI f from nI_ge (b := 3) (by omega) (by decide)), cS_cur h R k hp, Option.bind_some]
    simp only
    rw [cS_fig, Option.bind_some, pp_c_f, pp_dg_S]
    simp only
    by_cases e : pp_f tx t p = true
    · have hlt := pp_f_lt e
      rw [pv_bt e, if_neg (by decide), if_pos e, cS_cur h R k hp, Option.bind_some]
      simp only
      rw [pp_c_lt e, cs_1, nI_1, nI_1, cs_s1, ih (f + 1) (p + 1) _ (by omega) (by omega)]
      have := (pp_dg_ge (tx := tx) (t := t) c (p + 1) (((10 * v) + tx p) - 48)).1
      rw [show f + 1 + ((pp_dg tx t c (p + 1) (((10 * v) + tx p) - 48)).1 - (p + 1)) = f + ((pp_dg tx t c (p + 1) (((10 * v) + tx p) - 48)).1 - p) by omega]
    · rw [pv_bf e, if_pos rfl, if_neg e]
      show _ = fS_readNumber_L88 i b s (nI (f + (p - p))) v (cs M R p k)
      rw [Nat.sub_self, Nat.add_zero]
theorem cS_103 (h : Ct M tx t) (R : pV) (k i : Nat) {a f p : Nat} (ha : a < 4) (hf : f < 2147483648) (hp : p ≤ t) (x : Int32) : fS_readNumber_L103 i (nI f) (nI a) x (cs M R p k) = some (pv_b (decide (0 < f) && !pp_f tx t p), cs M (upd R (4 * i + a) x) p k) := by
  rw [fS_readNumber_L103_eq, mi_ix_n ha (by decide), Option.bind_some, cs_s5]
  by_cases e : 0 < f
  · rw [if_neg (show ¬ nI f ≤ 0 from nI_ge (a := 0) e (by omega)), cS_cur h _ k hp, Option.bind_some]
    simp only
    rw [cS_fig, Option.bind_some, pp_c_f, decide_eq_true e]
    simp only
    cases pp_f tx t p <;> rfl
  · rw [if_pos (show nI f ≤ 0 from nI_le (b := 0) (by omega) (by decide)), decide_eq_false e]
    rfl
theorem cS_n1 (h : Ct M tx t) (R : pV) (k i : Nat) (s : Bool) {a p : Nat} (ha : a < 4) (hp : p ≤ t) : fS_readNumber_L41 i (nI a) (pv_b s) 0 0 (cs M R p k) = some (pv_b (pp_n1 tx t s p).1, cs M (upd R (4 * i + a) (pp_n1 tx t s p).2.2) (pp_n1 tx t s p).2.1 k) := by
  obtain ⟨g1, g2⟩ := pp_dg_ge (tx := tx) (t := t) 3 p 0
  have g3 := g2 hp
  have ht := h.1
  rw [show fS_readNumber_L41 i (nI a) (pv_b s) 0 0 (cs M R p k) = _ from cS_dig h R k i (pv_b s) (nI a) 3 0 p 0 (by omega) hp, fS_readNumber_L88_eq]
  have e : decide (0 < 0 + ((pp_dg tx t 3 p 0).1 - p)) = decide (p < (pp_dg tx t 3 p 0).1) := decide_eq_decide.mpr (by omega)
  unfold pp_n1
  cases s
  · rw [if_pos (show pv_b false = 0 from rfl), cS_103 h R k i ha (by omega) g3, e]
    rfl
  · rw [if_neg (show ¬ pv_b true = 0 by decide), cS_103 h R k i ha (by omega) g3, e]
    rfl
theorem cS_num (h : Ct M tx t) (R : pV) (k i : Nat) (sg : Bool) {a p : Nat} (ha : a < 4) (hp : p ≤ t) : fS_readNumber i (nI a) (pv_b sg) (cs M R p k) = some (pv_b (pp_n tx t sg p).1, cs M (upd R (4 * i + a) (pp_n tx t sg p).2.2) (pp_n tx t sg p).2.1 k) := by
  rw [fS_readNumber_eq]
  unfold pp_n
  have no : fS_readNumber_L17 i (nI a) (cs M R p k) = some (pv_b (pp_n1 tx t false p).1, cs M (upd R (4 * i + a) (pp_n1 tx t false p).2.2) (pp_n1 tx t false p).2.1 k) := by
    rw [fS_readNumber_L17_eq, fS_readNumber_L18_eq, if_pos rfl]
    exact cS_n1 h R k i false ha hp
  cases sg
  · rw [if_pos (show pv_b false = 0 from rfl), if_neg (fun z => absurd z.1 (by decide))]
    exact no
  · rw [if_neg (show ¬ pv_b true = 0 by decide), cS_cur h R k hp, Option.bind_some]
    simp only
    by_cases e : p < t ∧ tx p = 45
    · rw [if_neg (fun z => z (by unfold pp_c; rw [if_pos e.1]; exact e.2)), if_pos ⟨trivial, e⟩, fS_readNumber_L18_eq, if_neg (by decide), cs_1, nI_1, cs_s1]
      exact cS_n1 h R k i true ha (by omega)
    · rw [if_pos (fun z => by
        unfold pp_c at z
        by_cases hlt : p < t
        · rw [if_pos hlt] at z; exact e ⟨hlt, z⟩
        · rw [if_neg hlt] at z; exact absurd z (by decide)), if_neg (fun z => e z.2)]
      exact no
theorem cS_59 (p : Nat) : pp_c tx t p = 59 ↔ (p < t ∧ tx p = 59) := by
  unfold pp_c
  by_cases e : p < t
  · rw [if_pos e]; exact ⟨fun z => ⟨e, z⟩, fun z => z.2⟩
  · rw [if_neg e]; exact ⟨fun z => absurd z (by decide), fun z => absurd z.1 e⟩
theorem cS_ordL (h : Ct M tx t) (k i : Nat) (rt : Bool) {N : Nat} (hN : N ≤ 3) : ∀ (c a p : Nat) (R : pV), a + c = N + 1 → 1 ≤ a → p ≤ t → ∃ R' : pV, (∀ q, (q < 4 * i + a ∨ 4 * i + 4 ≤ q) → R' q = R q) ∧ ((pp_ns tx t rt N c a p).1 = true → ∀ b, b < (pp_ns tx t rt N c a p).2.2.length → R' (4 * i + a + b) = (pp_ns tx t rt N c a p).2.2.getD b 0) ∧ fS_readOrder_L52 i (nI N) (pv_b rt) (nI a) (cs M R p k) = some (pv_b (pp_ne tx t (pp_ns tx t rt N c a p)).1, cs M R' (pp_ne tx t (pp_ns tx t rt N c a p)).2 k) := by
  intro c
  induction c with
  | zero =>
    intro a p R ha h1 hp
    refine ⟨R, fun _ _ => rfl, fun _ b hb => absurd hb (Nat.not_lt_zero b), ?_⟩
    have hs := pp_s_le (tx := tx) hp
    rw [fS_readOrder_L52_eq, if_pos (nI_lt (by omega) (by omega)), cS_skip h R k hp, Option.bind_some, cS_cur h R k hs, Option.bind_some]
    simp only
    show _ = some (pv_b (pp_e tx t p).1, cs M R (pp_e tx t p).2 k)
    unfold pp_e
    by_cases e : pp_s tx t p < t ∧ tx (pp_s tx t p) = 59
    · rw [if_pos ((cS_59 _).mpr e), if_pos e, cs_1, nI_1, cs_s1]
      rfl
    · rw [if_neg (fun z => e ((cS_59 _).mp z)), if_neg e]
      rfl
  | succ c ih =>
    intro a p R ha h1 hp
    have hs := pp_s_le (tx := tx) hp
    have e82 : fS_readOrder_L52 i (nI N) (pv_b rt) (nI a) (cs M R p k) = fS_readOrder_L82 i (nI N) (pv_b rt) (nI a) (nI a) (pv_b (rt && decide (a = N))) (cs M R (pp_s tx t p) k) := by
      rw [fS_readOrder_L52_eq, if_neg (show ¬ nI N < nI a from fun z => by rw [i_lt, i_nI (by omega), i_nI (by omega)] at z; omega), cS_skip h R k hp, Option.bind_some]
      cases rt
      · rw [if_pos (show pv_b false = 0 from rfl), fS_readOrder_L81_eq]
        rfl
      · rw [if_neg (show ¬ pv_b true = 0 by decide)]
        by_cases e : a = N
        · rw [if_neg (fun z => z (by rw [e])), decide_eq_true e]
          rfl
        · rw [if_pos (fun z => e (nI_ext (by omega) (by omega) z)), decide_eq_false e, fS_readOrder_L81_eq]
          rfl
    rw [e82, fS_readOrder_L82_eq, cS_num h R k i (rt && decide (a = N)) (by omega) hs, Option.bind_some, pp_ns_S]
    simp only
    obtain ⟨n1, n2, n3⟩ := pp_n_ge (tx := tx) (sg := rt && decide (a = N)) hs
    by_cases e : (pp_n tx t (rt && decide (a = N)) (pp_s tx t p)).1 = true
    · obtain ⟨R', r1, r2, r3⟩ := ih (a + 1) _ (upd R (4 * i + a) (pp_n tx t (rt && decide (a = N)) (pp_s tx t p)).2.2) (by omega) (by omega) n2
      rw [if_pos e, pv_bt e, if_pos (by decide), nI_1]
      refine ⟨R', fun q hq => ?_, fun z b hb => ?_, r3⟩
      · rw [r1 q (by omega), upd_ne (by omega)]
      · rcases b with _ | b
        · show R' (4 * i + a + 0) = _
          rw [Nat.add_zero, r1 _ (by omega), upd_same]
          rfl
        · rw [show 4 * i + a + (b + 1) = 4 * i + (a + 1) + b by omega]
          exact r2 z b (Nat.lt_of_succ_lt_succ hb)
    · rw [if_neg e, pv_bf e, if_neg (by decide)]
      refine ⟨_, fun q hq => upd_ne (by omega), fun z => absurd (show false = true from z) (by decide), rfl⟩
end CR
