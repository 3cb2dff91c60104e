/-! PURE: the reference's states: rows of numbers copied -/
theorem lit_le {k i : Nat} (hk : k ≤ i) (hi : i < 2147483648) : nI k ≤ nI i := nI_le hk (by omega)
theorem cM_hold {M : mM} : ∃ h : pV, (∀ p, p < 154 → h p = M.1 30 0 p) ∧ fM_hold M = some (mi_pv M 31 0 h) := by
  have L : ∀ (c i : Nat) (M : mM), i + c = 154 → (∀ p, p < i → M.1 31 0 p = M.1 30 0 p) → ∃ h : pV, (∀ p, p < 154 → h p = M.1 30 0 p) ∧ fM_hold_L2 (nI i) M = some (mi_pv M 31 0 h) := by
    intro c
    induction c with
    | zero =>
      intro i M hi hp
      refine ⟨M.1 31 0, fun p h => hp p (by omega), ?_⟩
      rw [fM_hold_L2_eq, if_pos (show (154 : Int32) ≤ nI i from lit_le (k := 154) (by omega) (by omega)), mi_pv_self]
    | succ c ih =>
      intro i M hi hp
      rw [fM_hold_L2_eq, if_neg (show ¬ (154 : Int32) ≤ nI i from nI_ge (b := 154) (by omega) (by decide)), mi_ix_n (by omega : i < 154) (by decide)]
      simp only [Option.bind_some, Nat.zero_add, mi_set_pv, nI_1]
      obtain ⟨h, h1, h2⟩ := ih (i + 1) (mi_pv M 31 0 (upd (M.1 31 0) i (M.1 30 0 i))) (by omega) (fun p hp' => by
        rw [mi_pv_at, mi_pv_net (by decide)]
        by_cases e : p = i
        · rw [e, upd_same]
        · rw [upd_ne e]; exact hp p (by omega))
      exact ⟨h, fun p hp' => by rw [h1 p hp', mi_pv_net (by decide)], by rw [h2, mi_pv_pv]⟩
  rw [fM_hold_eq]
  exact L 154 0 M (by omega) (fun p h => by omega)
theorem cM_lay {M : mM} : ∃ h : pV, (∀ p, p < 154 → h p = M.1 30 0 p) ∧ fM_lay M = some (mi_pv M 37 0 h) := by
  have L : ∀ (c i : Nat) (M : mM), i + c = 154 → (∀ p, p < i → M.1 37 0 p = M.1 30 0 p) → ∃ h : pV, (∀ p, p < 154 → h p = M.1 30 0 p) ∧ fM_lay_L2 (nI i) M = some (mi_pv M 37 0 h) := by
    intro c
    induction c with
    | zero =>
      intro i M hi hp
      refine ⟨M.1 37 0, fun p h => hp p (by omega), ?_⟩
      rw [fM_lay_L2_eq, if_pos (show (154 : Int32) ≤ nI i from lit_le (k := 154) (by omega) (by omega)), mi_pv_self]
    | succ c ih =>
      intro i M hi hp
      rw [fM_lay_L2_eq, if_neg (show ¬ (154 : Int32) ≤ nI i from nI_ge (b := 154) (by omega) (by decide)), mi_ix_n (by omega : i < 154) (by decide)]
      simp only [Option.bind_some, Nat.zero_add, mi_set_pv, nI_1]
      obtain ⟨h, h1, h2⟩ := ih (i + 1) (mi_pv M 37 0 (upd (M.1 37 0) i (M.1 30 0 i))) (by omega) (fun p hp' => by
        rw [mi_pv_at, mi_pv_net (by decide)]
        by_cases e : p = i
        · rw [e, upd_same]
        · rw [upd_ne e]; exact hp p (by omega))
      exact ⟨h, fun p hp' => by rw [h1 p hp', mi_pv_net (by decide)], by rw [h2, mi_pv_pv]⟩
  rw [fM_lay_eq]
  exact L 154 0 M (by omega) (fun p h => by omega)
theorem cM_takeB {M : mM} : ∃ h : pV, (∀ p, p < 154 → h p = M.1 37 0 p) ∧ fM_take M = some (mi_pv M 30 0 h) := by
  have L : ∀ (c i : Nat) (M : mM), i + c = 154 → (∀ p, p < i → M.1 30 0 p = M.1 37 0 p) → ∃ h : pV, (∀ p, p < 154 → h p = M.1 37 0 p) ∧ fM_take_L2 (nI i) M = some (mi_pv M 30 0 h) := by
    intro c
    induction c with
    | zero =>
      intro i M hi hp
      refine ⟨M.1 30 0, fun p h => hp p (by omega), ?_⟩
      rw [fM_take_L2_eq, if_pos (show (154 : Int32) ≤ nI i from lit_le (k := 154) (by omega) (by omega)), mi_pv_self]
    | succ c ih =>
      intro i M hi hp
      rw [fM_take_L2_eq, if_neg (show ¬ (154 : Int32) ≤ nI i from nI_ge (b := 154) (by omega) (by decide)), mi_ix_n (by omega : i < 154) (by decide)]
      simp only [Option.bind_some, Nat.zero_add, mi_set_pv, nI_1]
      obtain ⟨h, h1, h2⟩ := ih (i + 1) (mi_pv M 30 0 (upd (M.1 30 0) i (M.1 37 0 i))) (by omega) (fun p hp' => by
        rw [mi_pv_at, mi_pv_net (by decide)]
        by_cases e : p = i
        · rw [e, upd_same]
        · rw [upd_ne e]; exact hp p (by omega))
      exact ⟨h, fun p hp' => by rw [h1 p hp', mi_pv_net (by decide)], by rw [h2, mi_pv_pv]⟩
  rw [fM_take_eq]
  exact L 154 0 M (by omega) (fun p h => by omega)
theorem p770 {d i : Nat} (hd : d < 5) (hi : i < 154) : mi_ix ((154 * nI d) + nI i) 770 = some (154 * d + i) := by
  have e : (154 : Int32) * nI d + nI i = nI (154 * d + i) := by
    rw [show (154 : Int32) = nI 154 from rfl, pk_mul, nI_add]
  rw [e]
  exact mi_ix_n (by omega) (by decide)
theorem push_51 {d : Nat} (hd : d < 5) : ∀ (c i : Nat) (M : mM), M.1 41 0 0 = nI d → i + c = 154 → (∀ p, p < i → M.1 32 0 (154 * d + p) = M.1 31 0 p) → ∃ P : pV, (∀ p, p < 154 → P (154 * d + p) = M.1 31 0 p) ∧ (∀ q, q < 154 * d → P q = M.1 32 0 q) ∧ fM_push_L51 (nI i) M = some (mi_pv (mi_pv M 32 0 P) 41 0 (upd (M.1 41 0) 0 (nI (d + 1)))) := by
  intro c
  induction c with
  | zero =>
    intro i M h41 hi hp
    refine ⟨M.1 32 0, fun p h => hp p (by omega), fun _ _ => rfl, ?_⟩
    rw [fM_push_L51_eq, if_pos (show (154 : Int32) ≤ nI i from lit_le (k := 154) (by omega) (by omega)), mi_pv_self, mi_set_pv, h41, nI_1]
  | succ c ih =>
    intro i M h41 hi hp
    rw [fM_push_L51_eq, if_neg (show ¬ (154 : Int32) ≤ nI i from nI_ge (b := 154) (by omega) (by decide)), mi_ix_n (by omega : i < 154) (by decide), h41, p770 hd (by omega)]
    simp only [Option.bind_some, Nat.zero_add, mi_set_pv, nI_1]
    obtain ⟨P, h1, h2, h3⟩ := ih (i + 1) (mi_pv M 32 0 (upd (M.1 32 0) (154 * d + i) (M.1 31 0 i))) (by rw [mi_pv_net (by decide)]; exact h41) (by omega) (fun p hp' => by
      rw [mi_pv_at, mi_pv_net (by decide)]
      by_cases e : p = i
      · rw [e, upd_same]
      · rw [upd_ne (by omega)]; exact hp p (by omega))
    refine ⟨P, fun p hp' => by rw [h1 p hp', mi_pv_net (by decide)], fun q hq => by rw [h2 q hq, mi_pv_at, upd_ne (by omega)], ?_⟩
    rw [h3, mi_pv_pv, mi_pv_net (by decide)]
theorem push_10 : ∀ (c i : Nat) (P0 : pV) (M : mM), i + c = 616 → (∀ p, p < i → M.1 32 0 p = P0 (p + 154)) → (∀ p, i ≤ p → M.1 32 0 p = P0 p) → ∃ P : pV, (∀ p, p < 616 → P p = P0 (p + 154)) ∧ fM_push_L10 (nI i) M = fM_push_L51 0 (mi_set (mi_pv M 32 0 P) 41 0 0 (M.1 41 0 0 - 1)) := by
  intro c
  induction c with
  | zero =>
    intro i P0 M hi h1 h2
    refine ⟨M.1 32 0, fun p h => h1 p (by omega), ?_⟩
    rw [fM_push_L10_eq, if_pos (show (616 : Int32) ≤ nI i from lit_le (k := 616) (by omega) (by omega)), mi_pv_self]
  | succ c ih =>
    intro i P0 M hi h1 h2
    rw [fM_push_L10_eq, if_neg (show ¬ (616 : Int32) ≤ nI i from nI_ge (b := 616) (by omega) (by decide)), show nI i + 154 = nI (i + 154) from nI_add i 154, mi_ix_n (by omega : i + 154 < 770) (by decide), mi_ix_n (by omega : i < 770) (by decide)]
    simp only [Option.bind_some, Nat.zero_add, nI_1]
    obtain ⟨P, p1, p2⟩ := ih (i + 1) P0 (mi_set M 32 0 i (M.1 32 0 (i + 154))) (by omega) (fun p hp => by
      rw [mi_set_pv, mi_pv_at]
      by_cases e : p = i
      · rw [e, upd_same, h2 _ (by omega)]
      · rw [upd_ne e]; exact h1 p (by omega)) (fun p hp => by
      rw [mi_set_pv, mi_pv_at, upd_ne (by omega)]; exact h2 p (by omega))
    refine ⟨P, p1, ?_⟩
    rw [p2, mi_set_pv M, mi_pv_pv, mi_pv_net (by decide)]
theorem cM_push {M : mM} {d : Nat} (hd : d ≤ 5) (h41 : M.1 41 0 0 = nI d) : ∃ P : pV, (d < 5 → (∀ p, p < 154 → P (154 * d + p) = M.1 31 0 p) ∧ ∀ q, q < 154 * d → P q = M.1 32 0 q) ∧ (d = 5 → (∀ p, p < 154 → P (616 + p) = M.1 31 0 p) ∧ ∀ q, q < 616 → P q = M.1 32 0 (q + 154)) ∧ fM_push M = some (mi_pv (mi_pv M 32 0 P) 41 0 (upd (M.1 41 0) 0 (nI (if d < 5 then d + 1 else 5)))) := by
  rw [fM_push_eq, h41]
  by_cases h5 : d < 5
  · rw [if_pos (show ¬ nI d = 5 from fun e => by have := nI_ext (by omega) (by decide) (show nI d = nI 5 from e); omega), if_pos h5]
    obtain ⟨P, p1, p2, p3⟩ := push_51 h5 154 0 M h41 (by omega) (fun p h => by omega)
    exact ⟨P, fun _ => ⟨p1, p2⟩, fun e => by omega, p3⟩
  · have e5 : d = 5 := by omega
    subst e5
    rw [if_neg (fun z => z rfl)]
    obtain ⟨P0, q1, q2⟩ := push_10 616 0 (M.1 32 0) M (by omega) (fun p h => by omega) (fun p _ => rfl)
    rw [show (0 : Int32) = nI 0 from rfl, q2, h41]
    obtain ⟨P, p1, p2, p3⟩ := push_51 (d := 4) (by decide) 154 0 (mi_set (mi_pv M 32 0 P0) 41 0 0 (nI 5 - 1)) (by rw [mi_set_pv, mi_pv_at, upd_same]; rfl) (by omega) (fun p h => by omega)
    refine ⟨P, fun e => by omega, fun _ => ⟨fun p hp => ?_, fun q hq => ?_⟩, ?_⟩
    · rw [show 616 + p = 154 * 4 + p by omega, p1 p hp, mi_set_pv, mi_pv_net (by decide), mi_pv_net (by decide)]
    · rw [p2 q (by omega), mi_set_pv, mi_pv_net (by decide), mi_pv_at, q1 q hq]
    · rw [show (0 : Int32) = nI 0 from rfl, p3]
      refine congrArg some ?_
      rw [mi_set_pv, mi_pv_at, mi_pv_net (by decide), upd_upd, mi_pv_comm (t := 41) (t' := 32) (by decide), mi_pv_pv, mi_pv_pv]
      rfl
theorem cM_back {M : mM} {d : Nat} (hd : d < 5) (h41 : M.1 41 0 0 = nI (d + 1)) : ∃ u : pV, (∀ p, p < 154 → u p = M.1 32 0 (154 * d + p)) ∧ fM_back M = some (nI d, mi_pv (mi_pv M 41 0 (upd (M.1 41 0) 0 (nI d))) 30 0 u) := by
  have L : ∀ (c i : Nat) (M : mM), M.1 41 0 0 = nI d → i + c = 154 → (∀ p, p < i → M.1 30 0 p = M.1 32 0 (154 * d + p)) → ∃ u : pV, (∀ p, p < 154 → u p = M.1 32 0 (154 * d + p)) ∧ fM_back_L27 (nI i) M = some (nI d, mi_pv M 30 0 u) := by
    intro c
    induction c with
    | zero =>
      intro i M h hi hp
      refine ⟨M.1 30 0, fun p h => hp p (by omega), ?_⟩
      rw [fM_back_L27_eq, if_pos (show (154 : Int32) ≤ nI i from lit_le (k := 154) (by omega) (by omega)), mi_pv_self, h]
    | succ c ih =>
      intro i M h hi hp
      rw [fM_back_L27_eq, if_neg (show ¬ (154 : Int32) ≤ nI i from nI_ge (b := 154) (by omega) (by decide)), h, p770 hd (by omega), mi_ix_n (by omega : i < 154) (by decide)]
      simp only [Option.bind_some, Nat.zero_add, mi_set_pv, nI_1]
      obtain ⟨u, u1, u2⟩ := ih (i + 1) (mi_pv M 30 0 (upd (M.1 30 0) i (M.1 32 0 (154 * d + i)))) (by rw [mi_pv_net (by decide)]; exact h) (by omega) (fun p hp' => by
        rw [mi_pv_at, mi_pv_net (by decide)]
        by_cases e : p = i
        · rw [e, upd_same]
        · rw [upd_ne e]; exact hp p (by omega))
      exact ⟨u, fun p hp' => by rw [u1 p hp', mi_pv_net (by decide)], by rw [u2, mi_pv_pv]⟩
  rw [fM_back_eq, h41, if_pos (show ¬ nI (d + 1) = 0 from fun e => by have := nI_ext (by omega) (by decide) (show nI (d + 1) = nI 0 from e); omega), nI_pred, mi_set_pv]
  obtain ⟨u, u1, u2⟩ := L 154 0 (mi_pv M 41 0 (upd (M.1 41 0) 0 (nI d))) (by rw [mi_pv_at, upd_same]) (by omega) (fun p h => by omega)
  exact ⟨u, fun p hp => by rw [u1 p hp, mi_pv_net (by decide)], u2⟩
