section CR2
variable {M : mM} {tx : pV} {t : Nat}
theorem cS_nums (L : Int32) (M' : mM) : fS_numbersOf L M' = some (nI (pp_N L), M') := by
  rw [fS_numbersOf_eq]
  unfold pp_N
  by_cases e107 : L = 107
  · rw [if_pos e107, if_pos e107]; rfl
  rw [if_neg e107, if_neg e107]
  by_cases e108 : L = 108
  · rw [if_pos e108, if_pos e108]; rfl
  rw [if_neg e108, if_neg e108]
  by_cases e109 : L = 109
  · rw [if_pos e109, e109]; rfl
  rw [if_neg e109]
  by_cases e110 : L = 110
  · rw [if_pos e110, if_pos e110]; rfl
  rw [if_neg e110, if_neg e110]
  by_cases e111 : L = 111
  · rw [if_pos e111, if_pos e111]; rfl
  rw [if_neg e111, if_neg e111]
  by_cases e112 : L = 112
  · rw [if_pos e112, e112]; rfl
  rw [if_neg e112]
  by_cases e113 : L = 113
  · rw [if_pos e113, e113]; rfl
  rw [if_neg e113]
  by_cases e114 : L = 114
  · rw [if_pos e114, e114]; rfl
  rw [if_neg e114]
  by_cases e115 : L = 115
  · rw [if_pos e115, if_pos e115]; rfl
  rw [if_neg e115, if_neg e115]
  by_cases e116 : L = 116
  · rw [if_pos e116, if_pos e116]; rfl
  rw [if_neg e116, if_neg e116]
  by_cases e117 : L = 117
  · rw [if_pos e117, if_pos e117]; rfl
  rw [if_neg e117, if_neg e117]
  rfl
theorem cS_ord (h : Ct M tx t) (k i : Nat) {p : Nat} (hp : p ≤ t) (R : pV) : ∃ R' : pV, (∀ q, (q < 4 * i ∨ 4 * i + 4 ≤ q) → R' q = R q) ∧ ((pp_o tx t p).1 = true → ∀ b, b < (pp_o tx t p).2.2.length → R' (4 * i + b) = (pp_o tx t p).2.2.getD b 0) ∧ fS_readOrder i (cs M R p k) = some (pv_b (pp_o tx t p).1, cs M R' (pp_o tx t p).2.1 k) := by
  rw [fS_readOrder_eq, cS_cur h R k hp, Option.bind_some]
  simp only
  rw [cS_nums, Option.bind_some]
  simp only
  have hN := pp_N_le (pp_c tx t p)
  by_cases e : pp_N (pp_c tx t p) = 0
  · have eo : pp_o tx t p = (false, p, []) := by unfold pp_o; rw [if_pos e]
    rw [eo]
    refine ⟨R, fun _ _ => rfl, fun z => absurd (show false = true from z) (by decide), ?_⟩
    rw [e, if_neg (fun z => z rfl)]
    rfl
  · have hlt : p < t := Classical.byContradiction fun z => e (pp_N_end p z)
    have eo : pp_o tx t p = ((pp_ne tx t (pp_l tx t p)).1, (pp_ne tx t (pp_l tx t p)).2, pp_c tx t p :: (pp_l tx t p).2.2) := by unfold pp_o; rw [if_neg e]
    rw [if_pos (show ¬ nI (pp_N (pp_c tx t p)) = 0 from fun z => e (nI_ext (by omega) (by decide) (show nI (pp_N (pp_c tx t p)) = nI 0 from z))), ix_0_4, Option.bind_some, cs_1, nI_1, cs_s1, cs_s5, show 4 * i + 0 = 4 * i from rfl]
    obtain ⟨R', r1, r2, r3⟩ := cS_ordL h k i (pp_rt (pp_c tx t p)) hN (pp_N (pp_c tx t p)) 1 (p + 1) (upd R (4 * i) (pp_c tx t p)) (by omega) (by omega) (by omega)
    refine ⟨R', fun q hq => ?_, fun z b hb => ?_, ?_⟩
    · rw [r1 q (by omega), upd_ne (by omega)]
    · rw [eo] at z hb ⊢
      have z1 : (pp_l tx t p).1 = true := Classical.byContradiction fun y => by
        have : pp_ne tx t (pp_l tx t p) = (false, (pp_l tx t p).2.1) := by unfold pp_ne; rw [if_neg y]
        rw [this] at z
        exact absurd (show false = true from z) (by decide)
      rcases b with _ | b
      · rw [Nat.add_zero, r1 _ (by omega), upd_same]
        rfl
      · have := r2 z1 b (Nat.lt_of_succ_lt_succ hb)
        rw [show 4 * i + (b + 1) = 4 * i + 1 + b by omega, this]
        rfl
    · have ert : fS_readOrder_L52 i (nI (pp_N (pp_c tx t p))) (pv_b (pp_rt (pp_c tx t p))) 1 (cs M (upd R (4 * i) (pp_c tx t p)) (p + 1) k) = (if pp_c tx t p = 110 then fS_readOrder_L52 i (nI (pp_N (pp_c tx t p))) 1 1 (cs M (upd R (4 * i) (pp_c tx t p)) (p + 1) k) else if ¬ pp_c tx t p = 111 then fS_readOrder_L52 i (nI (pp_N (pp_c tx t p))) 0 1 (cs M (upd R (4 * i) (pp_c tx t p)) (p + 1) k) else fS_readOrder_L52 i (nI (pp_N (pp_c tx t p))) 1 1 (cs M (upd R (4 * i) (pp_c tx t p)) (p + 1) k)) := by
        unfold pp_rt
        by_cases e1 : pp_c tx t p = 110
        · rw [if_pos e1, decide_eq_true (Or.inl e1)]; rfl
        · rw [if_neg e1]
          by_cases e2 : pp_c tx t p = 111
          · rw [if_neg (fun z => z e2), decide_eq_true (Or.inr e2)]; rfl
          · rw [if_pos e2, decide_eq_false (fun z => z.elim e1 e2)]; rfl
      rw [← ert, eo]
      exact r3
theorem cS_readL (h : Ct M tx t) : ∀ (c n p : Nat) (R : pV), n + c = 40 → (n ≠ 0 ∨ p < t) → p ≤ t → 3 * n ≤ p → ∃ R' : pV, (∀ q, q < 4 * n → R' q = R q) ∧ ((pp_a tx t c p).1 = true → ∀ a, a < (pp_a tx t c p).2.2.length → ∀ b, b < ((pp_a tx t c p).2.2.getD a []).length → R' (4 * (n + a) + b) = ((pp_a tx t c p).2.2.getD a []).getD b 0) ∧ fS_read_L16 (nI n) (cs M R p n) = some (pv_b (pp_a tx t c p).1, cs M R' (pp_a tx t c p).2.1 (n + (pp_a tx t c p).2.2.length)) := by
  have ht := h.1
  intro c
  induction c with
  | zero =>
    intro n p R hn h0 hp h3
    refine ⟨R, fun _ _ => rfl, fun _ a ha => absurd ha (Nat.not_lt_zero a), ?_⟩
    rw [fS_read_L16_eq, if_pos (show (40 : Int32) ≤ nI n from lit_le (k := 40) (by omega) (by omega))]
    rfl
  | succ c ih =>
    intro n p R hn h0 hp h3
    rw [fS_read_L16_eq, if_neg (show ¬ (40 : Int32) ≤ nI n from nI_ge (b := 40) (by omega) (by decide)), cs_0, cs_1, h.2.1, pp_a_S]
    by_cases e : p < t
    · rw [if_neg (show ¬ nI t ≤ nI p from nI_ge e (by omega)), if_pos e]
      have e37 : ∀ X : Option (Int32 × mM), (if nI n = 0 then X else X) = X := fun X => by split <;> rfl
      rw [e37, fS_read_L37_eq, mi_ix_n (by omega : n < 40) (by decide), Option.bind_some]
      obtain ⟨R1, r1, r2, r3⟩ := cS_ord h n n hp R
      obtain ⟨o1, o2, o3⟩ := pp_o_ge (tx := tx) hp
      rw [r3, Option.bind_some]
      simp only
      by_cases eo : (pp_o tx t p).1 = true
      · obtain ⟨o4, o5, o6, o7⟩ := o3 eo
        have s1 := pp_s_ge (tx := tx) (t := t) (pp_o tx t p).2.1
        have hL := pp_N_le (pp_c tx t p)
        rw [pv_bt eo, if_pos eo, if_pos (show ¬ (1 : Int32) = 0 by decide), nI_1, cs_s2, cS_skip h R1 (n + 1) o2, Option.bind_some]
        obtain ⟨R', q1, q2, q3⟩ := ih (n + 1) (pp_s tx t (pp_o tx t p).2.1) R1 (by omega) (Or.inl (by omega)) (pp_s_le o2) (by omega)
        refine ⟨R', fun q hq => by rw [q1 q (by omega), r1 q (by omega)], fun z a ha b hb => ?_, ?_⟩
        · rcases a with _ | a
          · have hb' : b < (pp_o tx t p).2.2.length := hb
            have hb2 : (pp_o tx t p).2.2.length = pp_N (pp_c tx t p) + 1 := by rw [o6, ← o7]; rfl
            rw [Nat.add_zero, q1 _ (by omega), r2 eo b hb]
            rfl
          · rw [show n + (a + 1) = n + 1 + a by omega]
            exact q2 z a (Nat.lt_of_succ_lt_succ ha) b hb
        · rw [q3]
          show _ = some (_, cs M R' _ (n + ((pp_a tx t c (pp_s tx t (pp_o tx t p).2.1)).2.2.length + 1)))
          rw [show n + ((pp_a tx t c (pp_s tx t (pp_o tx t p).2.1)).2.2.length + 1) = n + 1 + (pp_a tx t c (pp_s tx t (pp_o tx t p).2.1)).2.2.length by omega]
      · rw [pv_bf eo, if_neg eo, if_neg (show ¬ ¬ (0 : Int32) = 0 by decide)]
        exact ⟨R1, fun q hq => r1 q (by omega), fun z => absurd (show false = true from z) (by decide), rfl⟩
    · rw [if_neg (show ¬ nI n = 0 from fun z => by have := nI_ext (by omega) (by decide) (show nI n = nI 0 from z); omega), if_pos (nI_le (by omega) (by omega)), if_neg e]
      exact ⟨R, fun _ _ => rfl, fun _ a ha => absurd ha (Nat.not_lt_zero a), rfl⟩
theorem cS_read0 : mi_set (mi_set M 6 0 1 0) 6 0 2 0 = cs M (M.1 5 0) 0 0 := by
  unfold cs
  rw [mi_pv_self, mi_set_pv, mi_set_pv, mi_pv_at, mi_pv_pv]
  rfl
/-- the text has an order's first byte -/
theorem cS_read (h : Ct M tx t) (hs : pp_s tx t 0 < t) : ∃ R' : pV, ((pp_a tx t 40 (pp_s tx t 0)).1 = true → ∀ a, a < (pp_a tx t 40 (pp_s tx t 0)).2.2.length → ∀ b, b < ((pp_a tx t 40 (pp_s tx t 0)).2.2.getD a []).length → R' (4 * a + b) = ((pp_a tx t 40 (pp_s tx t 0)).2.2.getD a []).getD b 0) ∧ fS_read M = some (pv_b (pp_a tx t 40 (pp_s tx t 0)).1, cs M R' (pp_a tx t 40 (pp_s tx t 0)).2.1 (pp_a tx t 40 (pp_s tx t 0)).2.2.length) := by
  obtain ⟨R', -, r2, r3⟩ := cS_readL h 40 0 (pp_s tx t 0) (M.1 5 0) (by omega) (Or.inr hs) (by omega) (by omega)
  refine ⟨R', fun z a ha b hb => ?_, ?_⟩
  · have := r2 z a ha b hb
    rw [Nat.zero_add] at this
    exact this
  · rw [fS_read_eq, cS_read0, cS_skip h _ 0 (Nat.zero_le _), Option.bind_some, show fS_read_L16 0 (cs M (M.1 5 0) (pp_s tx t 0) 0) = _ from r3, Nat.zero_add]
/-- the text is empty, or has blanks alone -/
theorem cS_readE (h : Ct M tx t) (hs : ¬ pp_s tx t 0 < t) : ∃ R' : pV, fS_read M = some (0, cs M R' t 0) := by
  have ht := h.1
  have e : pp_s tx t 0 = t := by have := pp_s_le (tx := tx) (t := t) (p := 0) (Nat.zero_le _); omega
  obtain ⟨R', -, -, r3⟩ := cS_ord h 0 0 (Nat.le_refl t) (M.1 5 0)
  have eo : pp_o tx t t = (false, t, []) := by unfold pp_o; rw [if_pos (pp_N_end t (Nat.lt_irrefl t))]
  refine ⟨R', ?_⟩
  rw [fS_read_eq, cS_read0, cS_skip h _ 0 (Nat.zero_le _), Option.bind_some, e, fS_read_L16_eq, if_neg (by decide), if_pos rfl, fS_read_L37_eq, show mi_ix 0 40 = some 0 from mi_ix_n (k := 0) (by decide) (by decide), Option.bind_some, r3, Option.bind_some, eo]
  rfl
end CR2
