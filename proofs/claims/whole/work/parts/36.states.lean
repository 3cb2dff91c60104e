/-! PURE: the class's states: which net is which -/
def mi_ms (M : mM) (S : Nat → Nat) : mM := (M.1, S, M.2.2)
def inj7 (S : Nat → Nat) : Prop := (∀ a, a < 7 → S a < 7) ∧ ∀ a, a < 7 → ∀ b, b < 7 → S a = S b → a = b
theorem inj7_comp {S π : Nat → Nat} (h : inj7 S) (h1 : ∀ a, a < 7 → π a < 7) (h2 : ∀ a, a < 7 → ∀ b, b < 7 → π a = π b → a = b) : inj7 (fun k => S (π k)) :=
  ⟨fun a ha => h.1 _ (h1 a ha), fun a ha b hb e => h2 a ha b hb (h.2 _ (h1 a ha) _ (h1 b hb) e)⟩
theorem ix_1_5 : mi_ix 1 5 = some 1 := mi_ix_n (by decide) (by decide)
theorem ix_2_5 : mi_ix 2 5 = some 2 := mi_ix_n (by decide) (by decide)
theorem ix_3_5 : mi_ix 3 5 = some 3 := mi_ix_n (by decide) (by decide)
def st_pi (d : Nat) : Nat → Nat := fun k => if k = 0 then 1 else if k = 1 then 2 + d else if k = 2 + d then 0 else k
def st_rho : Nat → Nat := fun k => if k = 2 then 3 else if k = 3 then 4 else if k = 4 then 5 else if k = 5 then 6 else if k = 6 then 2 else k
theorem st_pi_ok : ∀ d, d < 5 → (∀ a, a < 7 → st_pi d a < 7) ∧ ∀ a, a < 7 → ∀ b, b < 7 → st_pi d a = st_pi d b → a = b := by
  intro d hd
  unfold st_pi
  refine ⟨fun a ha => ?_, fun a ha b hb e => ?_⟩
  · split
    · omega
    · split
      · omega
      · split <;> omega
  · split at e <;> split at e <;> (try split at e) <;> (try split at e) <;> (try split at e) <;> (try split at e) <;> omega
theorem st_rho_ok : (∀ a, a < 7 → st_rho a < 7) ∧ ∀ a, a < 7 → ∀ b, b < 7 → st_rho a = st_rho b → a = b := by
  refine ⟨by decide, by decide⟩
theorem keep_12 {M : mM} {d : Nat} (hd : d < 5) (h : M.1 3 0 0 = nI d) : fX_keepTrial_L12 M = some (mi_ms (mi_pv M 3 0 (upd (M.1 3 0) 0 (nI (d + 1)))) (fun k => M.2.1 (st_pi d k))) := by
  rw [fX_keepTrial_L12_eq, h, mi_ix_n hd (by decide)]
  simp only [Option.bind_some]
  refine congrArg some ?_
  unfold mi_ms
  have hS : va_up (va_up (va_up M.2.1 (2 + d) (M.2.1 0)) 0 (va_up M.2.1 (2 + d) (M.2.1 0) 1)) 1 (M.2.1 (2 + d)) = fun k => M.2.1 (st_pi d k) := by
    funext k
    unfold va_up st_pi
    by_cases k1 : k = 1
    · rw [if_pos k1, if_neg (by omega), if_pos k1]
    · rw [if_neg k1]
      by_cases k0 : k = 0
      · rw [if_pos k0, if_pos k0, if_neg (by omega)]
      · rw [if_neg k0, if_neg k0, if_neg k1]
        by_cases kd : k = 2 + d
        · rw [if_pos kd, if_pos kd]
        · rw [if_neg kd, if_neg kd]
  rw [← hS, ← nI_1, ← h]
  rfl
theorem drop_old {M : mM} : fX_dropOldestState M = some (mi_ms (mi_pv M 3 0 (upd (M.1 3 0) 0 4)) (fun k => M.2.1 (st_rho k))) := by
  rw [fX_dropOldestState_eq, ix_0_5]
  simp only [Option.bind_some]
  rw [fX_dropOldestState_L9_eq, if_neg (by decide), ix_1_5, show (1 : Int32) - 1 = 0 from rfl, ix_0_5]
  simp only [Option.bind_some]
  rw [fX_dropOldestState_L9_eq, if_neg (by decide), show (1 : Int32) + 1 = 2 from rfl, ix_2_5, show (2 : Int32) - 1 = 1 from rfl, ix_1_5]
  simp only [Option.bind_some]
  rw [fX_dropOldestState_L9_eq, if_neg (by decide), show (2 : Int32) + 1 = 3 from rfl, ix_3_5, show (3 : Int32) - 1 = 2 from rfl, ix_2_5]
  simp only [Option.bind_some]
  rw [fX_dropOldestState_L9_eq, if_neg (by decide), show (3 : Int32) + 1 = 4 from rfl, ix_4_5, show (4 : Int32) - 1 = 3 from rfl, ix_3_5]
  simp only [Option.bind_some]
  rw [fX_dropOldestState_L9_eq, if_pos (by decide), ix_4_5]
  simp only [Option.bind_some]
  refine congrArg some ?_
  unfold mi_ms
  have hS : va_up (va_up (va_up (va_up (va_up M.2.1 2 (M.2.1 3)) 3 (M.2.1 4)) 4 (M.2.1 5)) 5 (M.2.1 6)) 6 (M.2.1 2) = fun k => M.2.1 (st_rho k) := by
    funext k
    unfold va_up st_rho
    by_cases k6 : k = 6
    · rw [if_pos k6, if_neg (by omega), if_neg (by omega), if_neg (by omega), if_neg (by omega), if_pos k6]
    · rw [if_neg k6]
      by_cases k5 : k = 5
      · rw [if_pos k5, if_neg (by omega), if_neg (by omega), if_neg (by omega), if_pos k5]
      · rw [if_neg k5]
        by_cases k4 : k = 4
        · rw [if_pos k4, if_neg (by omega), if_neg (by omega), if_pos k4]
        · rw [if_neg k4]
          by_cases k3 : k = 3
          · rw [if_pos k3, if_neg (by omega), if_pos k3]
          · rw [if_neg k3]
            by_cases k2 : k = 2
            · rw [if_pos k2, if_pos k2]
            · rw [if_neg k2, if_neg k2, if_neg k3, if_neg k4, if_neg k5, if_neg k6]
  rw [← hS]
  rfl
/-- behind a call that is kept: the trial is the net now, what was now is the newest state -/
theorem keep_trial {M : mM} {d : Nat} (hd : d ≤ 5) (hS : inj7 M.2.1) (h : M.1 3 0 0 = nI d) : ∃ S' : Nat → Nat, inj7 S' ∧ S' 0 = M.2.1 1 ∧ (d < 5 → (∀ k, k < d → S' (2 + k) = M.2.1 (2 + k)) ∧ S' (2 + d) = M.2.1 0) ∧ (d = 5 → (∀ k, k < 4 → S' (2 + k) = M.2.1 (3 + k)) ∧ S' 6 = M.2.1 0) ∧ fX_keepTrial M = some (mi_ms (mi_pv M 3 0 (upd (M.1 3 0) 0 (nI (if d < 5 then d + 1 else 5)))) S') := by
  rw [fX_keepTrial_eq, h]
  by_cases h5 : d < 5
  · rw [if_pos (show ¬ nI d = 5 from fun e => by have := nI_ext (by omega) (by decide) (show nI d = nI 5 from e); omega), keep_12 h5 h, if_pos h5]
    refine ⟨_, inj7_comp hS (st_pi_ok d h5).1 (st_pi_ok d h5).2, rfl, fun _ => ⟨fun k hk => ?_, ?_⟩, fun e => by omega, rfl⟩
    · show M.2.1 (st_pi d (2 + k)) = _
      unfold st_pi
      rw [if_neg (by omega), if_neg (by omega), if_neg (by omega)]
    · show M.2.1 (st_pi d (2 + d)) = _
      unfold st_pi
      rw [if_neg (by omega), if_neg (by omega), if_pos rfl]
  · have e5 : d = 5 := by omega
    subst e5
    rw [if_neg (fun z => z rfl), drop_old, Option.bind_some, keep_12 (d := 4) (by decide) (by show (mi_pv M 3 0 (upd (M.1 3 0) 0 4)).1 3 0 0 = _; rw [mi_pv_at, upd_same]; rfl)]
    refine ⟨_, inj7_comp (inj7_comp hS st_rho_ok.1 st_rho_ok.2) (st_pi_ok 4 (by decide)).1 (st_pi_ok 4 (by decide)).2, rfl, fun e => by omega, fun _ => ⟨fun k hk => ?_, rfl⟩, ?_⟩
    · have : k = 0 ∨ k = 1 ∨ k = 2 ∨ k = 3 := by omega
      rcases this with rfl | rfl | rfl | rfl <;> rfl
    · refine congrArg some ?_
      show mi_ms (mi_pv (mi_ms (mi_pv M 3 0 (upd (M.1 3 0) 0 4)) _) 3 0 _) _ = mi_ms (mi_pv M 3 0 (upd (M.1 3 0) 0 (nI 5))) _
      unfold mi_ms
      refine congrArg (fun D => ((D, _, M.2.2) : mM)) ?_
      have := congrArg Prod.fst (mi_pv_pv M 3 0 (upd (M.1 3 0) 0 4) (upd (upd (M.1 3 0) 0 4) 0 (nI 5)))
      rw [upd_upd] at this
      rw [← this]
      show mi_up _ 3 0 (upd ((mi_pv M 3 0 (upd (M.1 3 0) 0 4)).1 3 0) 0 (nI 5)) = _
      rw [mi_pv_at, upd_upd]
      rfl
/-- which count a refusal raises -/
def st_ri (a : Int32) : Nat := if a = -1002 then 0 else if a = -1003 then 1 else 2
theorem cX_refuse {M : mM} {a : Int32} : fX_refuse a M = some (a, mi_pv M 3 0 (upd (M.1 3 0) (1 + st_ri a) (M.1 3 0 (1 + st_ri a) + 1))) := by
  rw [fX_refuse_eq]
  unfold st_ri
  by_cases h1 : a = -1002
  · rw [if_neg (fun z => z h1), if_pos h1]; rfl
  · rw [if_pos h1, if_neg h1]
    by_cases h2 : a = -1003
    · rw [if_neg (fun z => z h2), if_pos h2]; rfl
    · rw [if_pos h2, if_neg h2]; rfl
theorem cM_refuses {M : mM} {a : Int32} (h : a = -1002 ∨ a = -1003 ∨ a = -1004) : fM_refuses a M = some (a, mi_pv M 33 0 (upd (M.1 33 0) (st_ri a) (M.1 33 0 (st_ri a) + 1))) := by
  rw [fM_refuses_eq]
  rcases h with rfl | rfl | rfl
  · rw [show (-1002 : Int32) - -1002 = 0 from by decide, ix_0_3]; rfl
  · rw [show (-1002 : Int32) - -1003 = 1 from by decide, ix_1_3]; rfl
  · rw [show (-1002 : Int32) - -1004 = 2 from by decide, ix_2_3]; rfl
