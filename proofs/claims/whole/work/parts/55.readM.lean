/-! PURE: the reference reads the text -/
def ms (M : mM) (A B : pV) (p : Nat) (f : Int32) (k : Nat) : mM := mi_pv (mi_pv (mi_pv M 39 0 A) 40 0 B) 41 0 (upd (upd (upd (M.1 41 0) 4 (nI p)) 5 f) 6 (nI k))
def Mt (M : mM) (tx : pV) (t : Nat) : Prop := t ≤ 120 ∧ M.1 41 0 3 = nI t ∧ ∀ k, k < t → M.1 38 0 k = tx k ∧ 0 ≤ (tx k).toInt
section MS
variable {M : mM} {A B : pV} {p k : Nat} {f : Int32}
theorem ms_41 : (ms M A B p f k).1 41 0 = upd (upd (upd (M.1 41 0) 4 (nI p)) 5 f) 6 (nI k) := mi_pv_at _ _ _ _
theorem ms_3 : (ms M A B p f k).1 41 0 3 = M.1 41 0 3 := by rw [ms_41, upd_ne (by decide), upd_ne (by decide), upd_ne (by decide)]
theorem ms_4 : (ms M A B p f k).1 41 0 4 = nI p := by rw [ms_41, upd_ne (by decide), upd_ne (by decide), upd_same]
theorem ms_5 : (ms M A B p f k).1 41 0 5 = f := by rw [ms_41, upd_ne (by decide), upd_same]
theorem ms_6 : (ms M A B p f k).1 41 0 6 = nI k := by rw [ms_41, upd_same]
theorem ms_38 : (ms M A B p f k).1 38 0 = M.1 38 0 := by unfold ms; rw [mi_pv_net (by decide), mi_pv_net (by decide), mi_pv_net (by decide)]
theorem ms_39 : (ms M A B p f k).1 39 0 = A := by unfold ms; rw [mi_pv_net (by decide), mi_pv_net (by decide), mi_pv_at]
theorem ms_40 : (ms M A B p f k).1 40 0 = B := by unfold ms; rw [mi_pv_net (by decide), mi_pv_at]
theorem ms_s4 (q : Nat) : mi_set (ms M A B p f k) 41 0 4 (nI q) = ms M A B q f k := by
  rw [mi_set_pv, ms_41]
  unfold ms
  rw [mi_pv_pv, upd_comm (f := upd (upd (M.1 41 0) 4 (nI p)) 5 f) (by decide), upd_comm (f := upd (M.1 41 0) 4 (nI p)) (by decide), upd_upd]
theorem ms_s5 (x : Int32) : mi_set (ms M A B p f k) 41 0 5 x = ms M A B p x k := by
  rw [mi_set_pv, ms_41]
  unfold ms
  rw [mi_pv_pv, upd_comm (f := upd (upd (M.1 41 0) 4 (nI p)) 5 f) (by decide), upd_upd]
theorem ms_s6 (q : Nat) : mi_set (ms M A B p f k) 41 0 6 (nI q) = ms M A B p f q := by
  rw [mi_set_pv, ms_41]
  unfold ms
  rw [mi_pv_pv, upd_upd]
theorem ms_s39 (a : Nat) (x : Int32) : mi_set (ms M A B p f k) 39 0 a x = ms M (upd A a x) B p f k := by
  rw [mi_set_pv, ms_39]
  unfold ms
  rw [mi_pv_comm (M := mi_pv (mi_pv M 39 0 A) 40 0 B) (by decide), mi_pv_comm (M := mi_pv M 39 0 A) (by decide), mi_pv_pv]
theorem ms_s40 (a : Nat) (x : Int32) : mi_set (ms M A B p f k) 40 0 a x = ms M A (upd B a x) p f k := by
  rw [mi_set_pv, ms_40]
  unfold ms
  rw [mi_pv_comm (M := mi_pv (mi_pv M 39 0 A) 40 0 B) (by decide), mi_pv_pv]
end MS
def pp_h (tx : pV) (t p : Nat) : Int32 := if p < t then tx p else -1001
section MR
variable {M : mM} {tx : pV} {t : Nat}
theorem pp_h_no (h : Mt M tx t) (p : Nat) : pp_h tx t p = -1001 ↔ ¬ p < t := by
  unfold pp_h
  by_cases e : p < t
  · rw [if_pos e]
    refine ⟨fun z => ?_, fun z => absurd e z⟩
    have := (h.2.2 p e).2
    rw [z] at this
    exact absurd this (by decide)
  · rw [if_neg e]
    exact ⟨fun _ => e, fun _ => rfl⟩
theorem cM_h38 (h : Mt M tx t) (A B : pV) (f : Int32) (k : Nat) {p : Nat} (hp : p ≤ t) : fM_here_L38 (ms M A B p f k) = some (pp_h tx t p, ms M A B p f k) := by
  obtain ⟨h1, h2, h3⟩ := h
  rw [fM_here_L38_eq, ms_3, ms_4, h2]
  unfold pp_h
  by_cases e : p < t
  · rw [if_neg (nI_ge (by omega) (by omega)), if_pos e, mi_ix_n (by omega : p < 120) (by decide), Option.bind_some, ms_38, Nat.zero_add, (h3 p e).1]
  · rw [if_pos (nI_le (by omega) (by omega)), if_neg e]
theorem cM_hL (h : Mt M tx t) (A B : pV) (f : Int32) (k : Nat) : ∀ (c p : Nat), p + c = t → fM_here_L0 (ms M A B p f k) = some (pp_h tx t (pp_s tx t p), ms M A B (pp_s tx t p) f k) := by
  obtain ⟨h1, h2, h3⟩ := id h
  intro c
  induction c with
  | zero =>
    intro p hp
    rw [fM_here_L0_eq, ms_3, ms_4, h2, if_pos (nI_le (by omega) (by omega)), pp_s_eq, if_neg (fun z => by omega), cM_h38 h A B f k (by omega)]
  | succ c ih =>
    intro p hp
    rw [fM_here_L0_eq, ms_3, ms_4, h2, if_neg (nI_ge (by omega) (by omega)), mi_ix_n (by omega : p < 120) (by decide), Option.bind_some, ms_38, Nat.zero_add, (h3 p (by omega)).1, pp_s_eq]
    by_cases e : tx p = 32
    · rw [if_neg (fun z => z e), if_pos ⟨by omega, e⟩, nI_1, ms_s4]
      exact ih (p + 1) (by omega)
    · rw [if_pos e, if_neg (fun z => e z.2), cM_h38 h A B f k (by omega)]
theorem cM_here (h : Mt M tx t) (A B : pV) (f : Int32) (k : Nat) {p : Nat} (hp : p ≤ t) : fM_here (ms M A B p f k) = some (pp_h tx t (pp_s tx t p), ms M A B (pp_s tx t p) f k) := cM_hL h A B f k (t - p) p (by omega)
theorem cM_must1 (A B : pV) (k p : Nat) : fM_must 1 (ms M A B p (-1001) k) = some (ms M A B (p + 1) (-1001) k) := by
  rw [fM_must_eq, ms_5, if_neg (fun z => z rfl), if_neg (by decide), ms_4, nI_1, ms_s4]
theorem cM_must0 (A B : pV) (k p : Nat) : fM_must 0 (ms M A B p (-1001) k) = some (ms M A B p (nI p) k) := by
  rw [fM_must_eq, ms_5, if_neg (fun z => z rfl), if_pos rfl, ms_4, ms_s5]
theorem cM_fig (h : Mt M tx t) (A B : pV) (f : Int32) (k : Nat) {p : Nat} (hp : p ≤ t) : fM_isFigure (ms M A B p f k) = some (pv_b (pp_f tx t p), ms M A B p f k) := by
  obtain ⟨h1, h2, h3⟩ := h
  rw [fM_isFigure_eq, ms_3, ms_4, h2]
  unfold pp_f
  by_cases e : p < t
  · rw [if_neg (nI_ge (by omega) (by omega)), mi_ix_n (by omega : p < 120) (by decide), Option.bind_some, ms_38, Nat.zero_add, (h3 p e).1, cM_in, Option.bind_some]
    simp only
    by_cases e2 : pv_in (tx p) 48 57 = true
    · rw [pv_bt e2, if_neg (by decide), decide_eq_true ⟨e, e2⟩]; rfl
    · rw [pv_bf e2, if_pos rfl, decide_eq_false (fun z => e2 z.2)]; rfl
  · rw [if_pos (nI_le (by omega) (by omega)), decide_eq_false (fun z => e z.1)]; rfl
theorem cM_digL (h : Mt M tx t) (A B : pV) (k : Nat) (s : Int32) : ∀ (c a p : Nat) (v : Int32), a + c = 2 → p ≤ t → fM_number_L72 s v (nI a) (ms M A B p (-1001) k) = fM_number_L129 s (pp_dg tx t c p v).2 (ms M A B (pp_dg tx t c p v).1 (-1001) k) := by
  intro c
  induction c with
  | zero =>
    intro a p v ha hp
    rw [fM_number_L72_eq, if_pos (show (2 : Int32) ≤ nI a from lit_le (k := 2) (by omega) (by omega))]
    rfl
  | succ c ih =>
    intro a p v ha hp
    have ht := h.1
    rw [fM_number_L72_eq, if_neg (show ¬ (2 : Int32) ≤ nI a from nI_ge (b := 2) (by omega) (by decide)), ms_5, if_neg (fun z => z rfl), cM_fig h A B _ k hp, Option.bind_some, pp_dg_S]
    simp only
    by_cases e : pp_f tx t p = true
    · have hlt := pp_f_lt e
      rw [pv_bt e, if_neg (by decide), if_pos e, ms_4, mi_ix_n (by omega : p < 120) (by decide), Option.bind_some, ms_38, Nat.zero_add, (h.2.2 p hlt).1, nI_1, nI_1, ms_s4]
      exact ih (a + 1) (p + 1) _ (by omega) (by omega)
    · rw [pv_bf e, if_pos rfl, if_neg e]
def pp_ft (b : Bool) (p : Nat) : Int32 := if b = true then -1001 else nI p
theorem cM_129 (h : Mt M tx t) (A B : pV) (k : Nat) (s : Bool) (v : Int32) {p : Nat} (hp : p ≤ t) : fM_number_L129 (pv_b s) v (ms M A B p (-1001) k) = some (if s = true then -v else v, ms M A B p (pp_ft (!pp_f tx t p) p) k) := by
  rw [fM_number_L129_eq, ms_5, if_neg (fun z => z rfl), cM_fig h A B _ k hp, Option.bind_some]
  simp only
  have e154 : ∀ M' : mM, fM_number_L154 (pv_b s) v M' = some (if s = true then -v else v, M') := fun M' => by
    rw [fM_number_L154_eq]
    cases s <;> rfl
  cases pp_f tx t p
  · rw [if_pos (show pv_b false = 0 from rfl), e154]; rfl
  · rw [if_neg (by decide), e154, ms_4, ms_s5]; rfl
theorem cM_n1 (h : Mt M tx t) (A B : pV) (k : Nat) (s : Bool) {p0 p : Nat} (hp : p ≤ t) {s1 s2 : Int32} (hs : s1 + s2 = nI p) : fM_number_L33 (pv_b s) s1 s2 (ms M A B p0 (-1001) k) = some ((pp_n1 tx t s p).2.2, ms M A B (pp_n1 tx t s p).2.1 (pp_ft (pp_n1 tx t s p).1 (pp_n1 tx t s p).2.1) k) := by
  have ht := h.1
  rw [fM_number_L33_eq, hs, ms_s4, cM_fig h A B _ k hp, Option.bind_some]
  simp only
  unfold pp_n1
  rw [pp_dg_S]
  by_cases e : pp_f tx t p = true
  · have hlt := pp_f_lt e
    have g := (pp_dg_ge (tx := tx) (t := t) 2 (p + 1) (((10 * 0) + tx p) - 48))
    rw [pv_bt e, if_neg (by decide), ms_4, mi_ix_n (by omega : p < 120) (by decide), Option.bind_some, ms_38, Nat.zero_add, (h.2.2 p hlt).1, fM_number_L60_eq, cM_fig h A B _ k hp, Option.bind_some, if_pos e]
    simp only
    rw [pv_bt e, cM_must1, Option.bind_some]
    have ev : tx p - 48 = ((10 * 0) + tx p) - 48 := by rw [Int32.mul_zero, Int32.zero_add]
    rw [ev, show fM_number_L72 (pv_b s) (((10 * 0) + tx p) - 48) 0 (ms M A B (p + 1) (-1001) k) = _ from cM_digL h A B k (pv_b s) 2 0 (p + 1) _ (by omega) (by omega), cM_129 h A B k s _ (g.2 (by omega)), decide_eq_true (show p < (pp_dg tx t 2 (p + 1) (((10 * 0) + tx p) - 48)).1 by omega), Bool.true_and]
  · rw [pv_bf e, if_pos rfl, if_neg e, fM_number_L60_eq, cM_fig h A B _ k hp, Option.bind_some]
    simp only
    rw [pv_bf e, cM_must0, Option.bind_some, fM_number_L72_eq, if_neg (by decide), ms_5, if_pos (nI_nNONE p (by omega)), fM_number_L129_eq, ms_5, if_pos (nI_nNONE p (by omega)), fM_number_L154_eq, decide_eq_false (Nat.lt_irrefl p), Bool.false_and]
    cases s <;> rfl
theorem pp_h45 (p : Nat) : pp_h tx t p = 45 ↔ (p < t ∧ tx p = 45) := by
  unfold pp_h
  by_cases e : p < t
  · rw [if_pos e]; exact ⟨fun z => ⟨e, z⟩, fun z => z.2⟩
  · rw [if_neg e]; exact ⟨fun z => absurd z (by decide), fun z => absurd z.1 e⟩
theorem pp_h59 (p : Nat) : pp_h tx t p = 59 ↔ (p < t ∧ tx p = 59) := by
  unfold pp_h
  by_cases e : p < t
  · rw [if_pos e]; exact ⟨fun z => ⟨e, z⟩, fun z => z.2⟩
  · rw [if_neg e]; exact ⟨fun z => absurd z (by decide), fun z => absurd z.1 e⟩
theorem cM_num (h : Mt M tx t) (A B : pV) (k : Nat) (sg : Bool) {p : Nat} (hp : p ≤ t) : fM_number (pv_b sg) (ms M A B p (-1001) k) = some ((pp_n tx t sg (pp_s tx t p)).2.2, ms M A B (pp_n tx t sg (pp_s tx t p)).2.1 (pp_ft (pp_n tx t sg (pp_s tx t p)).1 (pp_n tx t sg (pp_s tx t p)).2.1) k) := by
  have hs := pp_s_le (tx := tx) hp
  rw [fM_number_eq, cM_here h A B _ k hp, Option.bind_some]
  simp only
  unfold pp_n
  have no : fM_number_L17 (ms M A B (pp_s tx t p) (-1001) k) = some ((pp_n1 tx t false (pp_s tx t p)).2.2, ms M A B (pp_n1 tx t false (pp_s tx t p)).2.1 (pp_ft (pp_n1 tx t false (pp_s tx t p)).1 (pp_n1 tx t false (pp_s tx t p)).2.1) k) := by
    rw [fM_number_L17_eq, fM_number_L18_eq, if_pos rfl, ms_4]
    exact cM_n1 h A B k false hs (Int32.add_zero _)
  by_cases e : pp_s tx t p < t ∧ tx (pp_s tx t p) = 45
  · rw [if_neg (fun z => z ((pp_h45 _).mpr e))]
    cases sg
    · rw [if_pos (show pv_b false = 0 from rfl), if_neg (fun z => absurd z.1 (by decide))]
      exact no
    · rw [if_neg (show ¬ pv_b true = 0 by decide), if_pos ⟨rfl, e⟩, fM_number_L18_eq, if_neg (by decide), ms_4]
      exact cM_n1 h A B k true (by omega) (nI_1 _)
  · rw [if_pos (fun z => e ((pp_h45 _).mp z)), if_neg (fun z => e z.2)]
    exact no
theorem cM_90f (A B : pV) (k p : Nat) (L : Int32) {f : Int32} (hf : ¬ f = -1001) : fM_readOrder_L90 L (ms M A B p f k) = some (ms M A B p f k) := by
  rw [fM_readOrder_L90_eq, ms_5, if_pos hf]
theorem cM_28f (A B : pV) (k p : Nat) (L a b : Int32) {f : Int32} (hf : ¬ f = -1001) : fM_readOrder_L28 L a b (ms M A B p f k) = some (ms M A B p f k) := by
  rw [fM_readOrder_L28_eq, ms_5, if_pos hf, cM_90f A B k p L hf]
  split <;> rfl
theorem cM_90 (h : Mt M tx t) (A B : pV) {k p : Nat} (hk : k < 40) (hp : p ≤ t) (L : Int32) : fM_readOrder_L90 L (ms M A B p (-1001) k) = some (ms M (upd A k L) B (pp_e tx t p).2 (pp_ft (pp_e tx t p).1 (pp_e tx t p).2) (k + 1)) := by
  rw [fM_readOrder_L90_eq, ms_5, if_neg (fun z => z rfl), ms_6, mi_ix_n hk (by decide), Option.bind_some, ms_s39, ms_6, nI_1, ms_s6, Nat.zero_add, cM_here h _ B _ (k + 1) hp, Option.bind_some]
  simp only
  unfold pp_e
  by_cases e : pp_s tx t p < t ∧ tx (pp_s tx t p) = 59
  · rw [if_neg (fun z => z ((pp_h59 _).mpr e)), if_pos e, cM_must1]
    rfl
  · rw [if_pos (fun z => e ((pp_h59 _).mp z)), if_neg e, cM_must0]
    rfl
theorem ix_3k {k a : Nat} (hk : k < 40) (ha : a < 3) : mi_ix ((3 * nI k) + nI a) 120 = some (3 * k + a) := by
  have e : (3 : Int32) * nI k + nI a = nI (3 * k + a) := by
    rw [show (3 : Int32) = nI 3 from rfl, pk_mul, nI_add]
  rw [e]
  exact mi_ix_n (by omega) (by decide)
theorem cM_ordL (h : Mt M tx t) {k N : Nat} (hk : k < 40) (L : Int32) (hN : N ≤ 3) : ∀ (c a p : Nat) (A B : pV), a + c = N → p ≤ t → ∃ A' B' : pV, ∃ k' : Nat, (∀ q, q < k → A' q = A q) ∧ (∀ q, q < 3 * k + a → B' q = B q) ∧ ((pp_ne tx t (pp_ns tx t (pp_rt L) N c (a + 1) p)).1 = true → k' = k + 1 ∧ A' k = L ∧ ∀ b, b < (pp_ns tx t (pp_rt L) N c (a + 1) p).2.2.length → B' (3 * k + a + b) = (pp_ns tx t (pp_rt L) N c (a + 1) p).2.2.getD b 0) ∧ fM_readOrder_L28 L (nI N) (nI a) (ms M A B p (-1001) k) = some (ms M A' B' (pp_ne tx t (pp_ns tx t (pp_rt L) N c (a + 1) p)).2 (pp_ft (pp_ne tx t (pp_ns tx t (pp_rt L) N c (a + 1) p)).1 (pp_ne tx t (pp_ns tx t (pp_rt L) N c (a + 1) p)).2) k') := by
  have ht := h.1
  intro c
  induction c with
  | zero =>
    intro a p A B ha hp
    refine ⟨upd A k L, B, k + 1, fun q hq => upd_ne (by omega), fun _ _ => rfl, fun _ => ⟨rfl, upd_same _ _ _, fun b hb => absurd hb (Nat.not_lt_zero b)⟩, ?_⟩
    rw [fM_readOrder_L28_eq, if_pos (nI_le (by omega) (by omega)), cM_90 h A B hk hp]
    rfl
  | succ c ih =>
    intro a p A B ha hp
    have hs := pp_s_le (tx := tx) hp
    have e80 : fM_readOrder_L28 L (nI N) (nI a) (ms M A B p (-1001) k) = fM_readOrder_L80 L (nI N) (nI a) ((3 * nI k) + nI a) (pv_b (pp_rt L && decide (a + 1 = N))) (ms M A B p (-1001) k) := by
      rw [fM_readOrder_L28_eq, if_neg (nI_ge (by omega) (by omega)), ms_5, if_neg (fun z => z rfl), ms_6]
      have eN : nI N - 1 = nI (a + c) := by rw [show N = a + c + 1 by omega, nI_pred]
      rw [eN, fM_readOrder_L79_eq, fM_readOrder_L75_eq]
      by_cases e : a + 1 = N
      · rw [if_neg (fun z => z (by rw [show c = 0 by omega]; rfl)), decide_eq_true e, Bool.and_true]
        unfold pp_rt
        by_cases e1 : L = 110
        · rw [if_pos e1, decide_eq_true (Or.inl e1)]; rfl
        · rw [if_neg e1]
          by_cases e2 : L = 111
          · rw [if_neg (fun z => z e2), decide_eq_true (Or.inr e2)]; rfl
          · rw [if_pos e2, decide_eq_false (fun z => z.elim e1 e2)]; rfl
      · rw [if_pos (fun z => by have := nI_ext (by omega) (by omega) z; omega), decide_eq_false e, Bool.and_false]
        rfl
    rw [e80, fM_readOrder_L80_eq, cM_num h A B k (pp_rt L && decide (a + 1 = N)) hp, Option.bind_some, ix_3k hk (by omega), Option.bind_some, pp_ns_S]
    simp only
    rw [nI_1, ms_s40, Nat.zero_add]
    obtain ⟨n1, n2, n3⟩ := pp_n_ge (tx := tx) (sg := pp_rt L && decide (a + 1 = N)) hs
    by_cases e : (pp_n tx t (pp_rt L && decide (a + 1 = N)) (pp_s tx t p)).1 = true
    · obtain ⟨A', B', k', r1, r2, r3, r4⟩ := ih (a + 1) _ A (upd B (3 * k + a) (pp_n tx t (pp_rt L && decide (a + 1 = N)) (pp_s tx t p)).2.2) (by omega) n2
      rw [if_pos e, e]
      refine ⟨A', B', k', r1, fun q hq => by rw [r2 q (by omega), upd_ne (by omega)], fun z => ?_, r4⟩
      obtain ⟨z1, z2, z3⟩ := r3 z
      refine ⟨z1, z2, fun b hb => ?_⟩
      rcases b with _ | b
      · rw [Nat.add_zero, r2 _ (by omega), upd_same]
        rfl
      · rw [show 3 * k + a + (b + 1) = 3 * k + (a + 1) + b by omega]
        exact z3 b (Nat.lt_of_succ_lt_succ hb)
    · have ef : pp_ft (pp_n tx t (pp_rt L && decide (a + 1 = N)) (pp_s tx t p)).1 (pp_n tx t (pp_rt L && decide (a + 1 = N)) (pp_s tx t p)).2.1 = nI (pp_n tx t (pp_rt L && decide (a + 1 = N)) (pp_s tx t p)).2.1 := by unfold pp_ft; rw [if_neg e]
      rw [if_neg e, ef, cM_28f _ _ _ _ _ _ _ (nI_nNONE _ (by omega))]
      exact ⟨A, _, k, fun _ _ => rfl, fun q hq => upd_ne (by omega), fun z => absurd (show false = true from z) (by decide), rfl⟩
theorem cM_nums (L : Int32) (M' : mM) : fM_numbersOf L M' = some (if pp_N L = 0 then -1001 else nI (pp_N L), M') := by
  rw [fM_numbersOf_eq]
  unfold pp_N
  by_cases e107 : L = 107
  · rw [if_pos e107, if_pos e107]; rfl
  rw [if_neg e107, if_neg e107]
  by_cases e108 : L = 108
  · rw [if_pos e108, if_pos e108]; rfl
  rw [if_neg e108, if_neg e108]
  by_cases e109 : L = 109
  · rw [if_pos e109, e109]; rfl
  rw [if_neg e109]
  by_cases e110 : L = 110
  · rw [if_pos e110, if_pos e110]; rfl
  rw [if_neg e110, if_neg e110]
  by_cases e111 : L = 111
  · rw [if_pos e111, if_pos e111]; rfl
  rw [if_neg e111, if_neg e111]
  by_cases e112 : L = 112
  · rw [if_pos e112, e112]; rfl
  rw [if_neg e112]
  by_cases e113 : L = 113
  · rw [if_pos e113, e113]; rfl
  rw [if_neg e113]
  by_cases e114 : L = 114
  · rw [if_pos e114, e114]; rfl
  rw [if_neg e114]
  by_cases e115 : L = 115
  · rw [if_pos e115, if_pos e115]; rfl
  rw [if_neg e115, if_neg e115]
  by_cases e116 : L = 116
  · rw [if_pos e116, if_pos e116]; rfl
  rw [if_neg e116, if_neg e116]
  by_cases e117 : L = 117
  · rw [if_pos e117, if_pos e117]; rfl
  rw [if_neg e117, if_neg e117]
  rfl
theorem cM_ord (h : Mt M tx t) {k p : Nat} (hk : k < 40) (hlt : p < t) (hsk : pp_s tx t p = p) (A B : pV) : ∃ A' B' : pV, ∃ k' : Nat, (∀ q, q < k → A' q = A q) ∧ (∀ q, q < 3 * k → B' q = B q) ∧ ((pp_o tx t p).1 = true → k' = k + 1 ∧ A' k = (pp_o tx t p).2.2.getD 0 0 ∧ ∀ b, b + 1 < (pp_o tx t p).2.2.length → B' (3 * k + b) = (pp_o tx t p).2.2.getD (b + 1) 0) ∧ fM_readOrder (ms M A B p (-1001) k) = some (ms M A' B' (pp_o tx t p).2.1 (pp_ft (pp_o tx t p).1 (pp_o tx t p).2.1) k') := by
  have ht := h.1
  have ec : pp_c tx t p = pp_h tx t p := by unfold pp_c pp_h; rw [if_pos hlt, if_pos hlt]
  have hN := pp_N_le (pp_c tx t p)
  rw [fM_readOrder_eq, cM_here h A B _ k (by omega), Option.bind_some, hsk, ← ec]
  simp only
  rw [cM_nums, Option.bind_some]
  simp only
  by_cases e : pp_N (pp_c tx t p) = 0
  · have eo : pp_o tx t p = (false, p, []) := by unfold pp_o; rw [if_pos e]
    rw [eo, if_pos e, if_pos rfl, cM_must0, Option.bind_some, cM_28f _ _ _ _ _ _ _ (nI_nNONE p (by omega))]
    exact ⟨A, B, k, fun _ _ => rfl, fun _ _ => rfl, fun z => absurd (show false = true from z) (by decide), rfl⟩
  · have eo : pp_o tx t p = ((pp_ne tx t (pp_l tx t p)).1, (pp_ne tx t (pp_l tx t p)).2, pp_c tx t p :: (pp_l tx t p).2.2) := by unfold pp_o; rw [if_neg e]
    rw [eo, if_neg e, if_neg (nI_nNONE _ (by omega)), cM_must1, Option.bind_some]
    obtain ⟨A', B', k', r1, r2, r3, r4⟩ := cM_ordL h hk (pp_c tx t p) hN (pp_N (pp_c tx t p)) 0 (p + 1) A B (by omega) (by omega)
    refine ⟨A', B', k', r1, fun q hq => r2 q (by omega), fun z => ?_, r4⟩
    obtain ⟨z1, z2, z3⟩ := r3 z
    exact ⟨z1, z2, fun b hb => z3 b (Nat.lt_of_succ_lt_succ hb)⟩
theorem cM_readL (h : Mt M tx t) : ∀ (c k p : Nat) (A B : pV), k + c = 40 → p ≤ t → 3 * k ≤ p → ∃ A' B' : pV, ∃ k' : Nat, (∀ q, q < k → A' q = A q) ∧ (∀ q, q < 3 * k → B' q = B q) ∧ ((pp_a tx t c (pp_s tx t p)).1 = true → k' = k + (pp_a tx t c (pp_s tx t p)).2.2.length ∧ ∀ a, a < (pp_a tx t c (pp_s tx t p)).2.2.length → A' (k + a) = ((pp_a tx t c (pp_s tx t p)).2.2.getD a []).getD 0 0 ∧ ∀ b, b + 1 < ((pp_a tx t c (pp_s tx t p)).2.2.getD a []).length → B' (3 * (k + a) + b) = ((pp_a tx t c (pp_s tx t p)).2.2.getD a []).getD (b + 1) 0) ∧ fM_does_L35 (ms M A B p (-1001) k) = fM_does_L62 (ms M A' B' (pp_a tx t c (pp_s tx t p)).2.1 (pp_ft (pp_a tx t c (pp_s tx t p)).1 (pp_a tx t c (pp_s tx t p)).2.1) k') := by
  have ht := h.1
  intro c
  induction c with
  | zero =>
    intro k p A B hk hp h3
    refine ⟨A, B, k, fun _ _ => rfl, fun _ _ => rfl, fun _ => ⟨rfl, fun a ha => absurd ha (Nat.not_lt_zero a)⟩, ?_⟩
    have s1 := pp_s_ge (tx := tx) (t := t) p
    rw [fM_does_L35_eq, ms_5, if_neg (fun z => z rfl), cM_here h A B _ k hp, Option.bind_some]
    simp only
    rw [if_pos ((pp_h_no h _).mpr (by omega))]
    rfl
  | succ c ih =>
    intro k p A B hk hp h3
    have s1 := pp_s_ge (tx := tx) (t := t) p
    have s2 := pp_s_le (tx := tx) hp
    rw [fM_does_L35_eq, ms_5, if_neg (fun z => z rfl), cM_here h A B _ k hp, Option.bind_some, pp_a_S]
    simp only
    by_cases e : pp_s tx t p < t
    · rw [if_neg (fun z => (pp_h_no h _).mp z e), if_pos e]
      obtain ⟨A1, B1, k1, r1, r2, r3, r4⟩ := cM_ord h (by omega : k < 40) e (pp_s_id p) A B
      obtain ⟨o1, o2, o3⟩ := pp_o_ge (tx := tx) s2
      rw [r4, Option.bind_some]
      by_cases eo : (pp_o tx t (pp_s tx t p)).1 = true
      · obtain ⟨o4, o5, o6, o7⟩ := o3 eo
        obtain ⟨z1, z2, z3⟩ := r3 eo
        have hL := pp_N_le (pp_c tx t (pp_s tx t p))
        have hlen : (pp_o tx t (pp_s tx t p)).2.2.length = pp_N (pp_c tx t (pp_s tx t p)) + 1 := by rw [o6, ← o7]; rfl
        rw [if_pos eo, z1, show pp_ft (pp_o tx t (pp_s tx t p)).1 (pp_o tx t (pp_s tx t p)).2.1 = -1001 by unfold pp_ft; rw [if_pos eo]]
        obtain ⟨A', B', k', q1, q2, q3, q4⟩ := ih (k + 1) (pp_o tx t (pp_s tx t p)).2.1 A1 B1 (by omega) o2 (by omega)
        refine ⟨A', B', k', fun q hq => by rw [q1 q (by omega), r1 q hq], fun q hq => by rw [q2 q (by omega), r2 q hq], fun z => ?_, q4⟩
        obtain ⟨y1, y2⟩ := q3 z
        refine ⟨by rw [y1]; show _ = k + (_ + 1); omega, fun a ha => ?_⟩
        rcases a with _ | a
        · refine ⟨by rw [Nat.add_zero, q1 k (by omega), z2]; rfl, fun b hb => ?_⟩
          have hb' : b + 1 < (pp_o tx t (pp_s tx t p)).2.2.length := hb
          rw [Nat.add_zero, q2 _ (by omega), z3 b hb']
          rfl
        · rw [show k + (a + 1) = k + 1 + a by omega]
          exact y2 a (Nat.lt_of_succ_lt_succ ha)
      · rw [if_neg eo, fM_does_L35_eq, ms_5, show pp_ft (pp_o tx t (pp_s tx t p)).1 (pp_o tx t (pp_s tx t p)).2.1 = nI (pp_o tx t (pp_s tx t p)).2.1 by unfold pp_ft; rw [if_neg eo], if_pos (nI_nNONE _ (by omega))]
        exact ⟨A1, B1, k1, r1, r2, fun z => absurd (show false = true from z) (by decide), rfl⟩
    · rw [if_pos ((pp_h_no h _).mpr e), if_neg e]
      exact ⟨A, B, k, fun _ _ => rfl, fun _ _ => rfl, fun _ => ⟨rfl, fun a ha => absurd ha (Nat.not_lt_zero a)⟩, rfl⟩
theorem cM_does0 : mi_set (mi_set (mi_set M 41 0 4 0) 41 0 5 (-1001)) 41 0 6 0 = ms M (M.1 39 0) (M.1 40 0) 0 (-1001) 0 := by
  unfold ms
  rw [mi_pv_self, mi_pv_self, mi_set_pv, mi_set_pv, mi_set_pv, mi_pv_at, mi_pv_at, mi_pv_pv, mi_pv_pv]
  rfl
theorem cM_read (h : Mt M tx t) (hs : pp_s tx t 0 < t) : ∃ A' B' : pV, ∃ k' : Nat, ((pp_a tx t 40 (pp_s tx t 0)).1 = true → k' = (pp_a tx t 40 (pp_s tx t 0)).2.2.length ∧ ∀ a, a < (pp_a tx t 40 (pp_s tx t 0)).2.2.length → A' a = ((pp_a tx t 40 (pp_s tx t 0)).2.2.getD a []).getD 0 0 ∧ ∀ b, b + 1 < ((pp_a tx t 40 (pp_s tx t 0)).2.2.getD a []).length → B' (3 * a + b) = ((pp_a tx t 40 (pp_s tx t 0)).2.2.getD a []).getD (b + 1) 0) ∧ fM_does M = fM_does_L62 (ms M A' B' (pp_a tx t 40 (pp_s tx t 0)).2.1 (pp_ft (pp_a tx t 40 (pp_s tx t 0)).1 (pp_a tx t 40 (pp_s tx t 0)).2.1) k') := by
  obtain ⟨A', B', k', -, -, r3, r4⟩ := cM_readL h 40 0 (pp_s tx t 0) (M.1 39 0) (M.1 40 0) (by omega) (by omega) (by omega)
  rw [pp_s_id] at r3 r4
  refine ⟨A', B', k', fun z => ?_, ?_⟩
  · obtain ⟨z1, z2⟩ := r3 z
    refine ⟨by rw [z1, Nat.zero_add], fun a ha => ?_⟩
    have := z2 a ha
    rw [Nat.zero_add] at this
    exact this
  · rw [fM_does_eq, cM_does0, cM_here h _ _ _ 0 (Nat.zero_le _), Option.bind_some]
    simp only
    rw [if_pos (fun z => (pp_h_no h _).mp z hs), r4]
theorem cM_readE (h : Mt M tx t) (hs : ¬ pp_s tx t 0 < t) : fM_does M = some (-10 - nI t, ms M (M.1 39 0) (M.1 40 0) t (-1001) 0) := by
  have e : pp_s tx t 0 = t := by have := pp_s_le (tx := tx) (t := t) (p := 0) (Nat.zero_le _); omega
  rw [fM_does_eq, cM_does0, cM_here h _ _ _ 0 (Nat.zero_le _), Option.bind_some]
  simp only
  rw [if_neg (fun z => z ((pp_h_no h _).mpr hs)), ms_3, h.2.1, e]
end MR
