/-! PURE: ring of the class, follow of the model -/
theorem cN_ringC {n m T j q : Nat} {v : pV} {M : mM} (hv : M.1 0 j = v) (wf : pv_wf n m T v) (cl : ∀ b, b < 6 → q.testBit b = true → b < n ∧ ∃ b', b' < n ∧ pv_src v b = nI b' ∧ q.testBit b' = true) : ∀ (c k a : Nat), k + c = 6 → a < n → q.testBit a = true → fN_isRing_L4 j (nI a) (nI k) M = some (1, M) := by
  obtain ⟨h4, h5, hn, hm, -⟩ := id wf
  intro c
  induction c with
  | zero =>
    intro k a hk ha tb
    rw [fN_isRing_L4_eq, show k = 6 by omega, if_pos (by decide), fN_isRing_L30_eq, if_neg (nI_nNONE a (by omega))]
  | succ c ih =>
    intro k a hk ha tb
    rw [fN_isRing_L4_eq, if_neg (show ¬ (6 : Int32) ≤ nI k from fun e => by rw [i_le, i_nI (by omega), show (6 : Int32).toInt = 6 by decide] at e; omega), cN_hasNode hv h4 hn, Option.bind_some, pv_bt (pv_isn_nI ha (by omega))]
    simp only
    rw [if_neg (by decide), cN_nodeAhead hv wf ha, Option.bind_some, nI_1]
    simp only
    obtain ⟨-, b', hb, e, tb'⟩ := cl a (by omega) tb
    rw [e]
    exact ih (k + 1) b' (by omega) hb tb'
theorem cN_ringL {n m T j : Nat} {v : pV} {M : mM} (hv : M.1 0 j = v) (wf : pv_wf n m T v) : ∀ (c k q : Nat) (x : Int32), k + c = 6 → q < 64 → pc6 q = k → (x = -1001 ∨ ∃ a, a < n ∧ x = nI a) → (∀ b, b < 6 → q.testBit b = true → b < n ∧ (pv_src v b = x ∨ ∃ b', b' < n ∧ pv_src v b = nI b' ∧ q.testBit b' = true)) → fN_isRing_L4 j x (nI k) M = some (pv_b (pv_fol v c q x).2, M) := by
  obtain ⟨h4, h5, hn, hm, -⟩ := id wf
  intro c
  induction c with
  | zero =>
    intro k q x hk hq hp hx inv
    rw [fN_isRing_L4_eq, show k = 6 by omega, if_pos (by decide), fN_isRing_L30_eq]
    show _ = some (pv_b (decide (¬ x = -1001)), M)
    by_cases e : x = -1001
    · rw [if_pos e, decide_eq_false (by simpa using e)]; rfl
    · rw [if_neg e, decide_eq_true e]; rfl
  | succ c ih =>
    intro k q x hk hq hp hx inv
    by_cases e : x = -1001
    · rw [fN_isRing_L4_eq, if_neg (show ¬ (6 : Int32) ≤ nI k from fun e => by rw [i_le, i_nI (by omega), show (6 : Int32).toInt = 6 by decide] at e; omega), cN_hasNode hv h4 hn, Option.bind_some, pv_fol_S, if_pos e, pv_bf (by rw [e]; unfold pv_isn; simp)]
      simp only
      rw [if_pos trivial, fN_isRing_L30_eq, if_pos e]
      rfl
    · obtain ⟨a, ha, rfl⟩ := hx.resolve_left e
      obtain ⟨m1, m2, m3, m4, m5, m6, m7⟩ := msk_fin q hq a (by omega)
      rw [pv_fol_S, if_neg e, nI_clp a (by omega)]
      by_cases tb : q.testBit a = true
      · rw [if_pos tb]
        exact cN_ringC hv wf (fun b hb tb' => by
          obtain ⟨i1, i2⟩ := inv b hb tb'
          refine ⟨i1, ?_⟩
          rcases i2 with i2 | i2
          · exact ⟨a, ha, i2, tb⟩
          · exact i2) (c + 1) k a (by omega) ha tb
      · rw [if_neg tb, fN_isRing_L4_eq, if_neg (show ¬ (6 : Int32) ≤ nI k from fun e => by rw [i_le, i_nI (by omega), show (6 : Int32).toInt = 6 by decide] at e; omega), cN_hasNode hv h4 hn, Option.bind_some, pv_bt (pv_isn_nI ha (by omega))]
        simp only
        rw [if_neg (by decide), cN_nodeAhead hv wf ha, Option.bind_some, nI_1]
        exact ih (k + 1) _ _ (by omega) m4 (by rw [m5 (by simpa using tb)]; omega) (wf.src ha) (fun b hb tb' => by
          rcases (m7 b hb).mp tb' with z | z
          · obtain ⟨i1, i2⟩ := inv b hb z
            refine ⟨i1, Or.inr ?_⟩
            rcases i2 with i2 | ⟨b', y1, y2, y3⟩
            · exact ⟨a, ha, i2, (m7 a (by omega)).mpr (Or.inr rfl)⟩
            · exact ⟨b', y1, y2, (m7 b' (by omega)).mpr (Or.inl y3)⟩
          · exact ⟨by omega, Or.inl (by rw [z])⟩)
theorem mi_pv2 (M : mM) (A B C D : pV) : mi_pv (mi_pv (mi_pv (mi_pv M 36 0 A) 41 0 B) 36 0 C) 41 0 D = mi_pv (mi_pv M 36 0 C) 41 0 D := by
  rw [mi_pv_comm (M := mi_pv M 36 0 A) (t := 41) (j := 0) (t' := 36) (j' := 0) (v := B) (w := C) (by decide), mi_pv_pv, mi_pv_pv]
theorem cM_fol59 {M : mM} {x : Int32} {b : Bool} (hb : b = decide (¬ x = -1001)) {k : Nat} (hk : M.1 41 0 1 = nI k) : ∃ P Q : pV, (∀ p, p < k → P p = M.1 36 0 p) ∧ (∀ p, p < 0 → P (k + p) = ([] : List Int32).getD p (-1001)) ∧ Q 1 = nI (k + 0) ∧ Q 2 = pv_b b ∧ (∀ p, p ≠ 1 → p ≠ 2 → Q p = M.1 41 0 p) ∧ fM_follow_L59 x M = some (mi_pv (mi_pv M 36 0 P) 41 0 Q) := by
  refine ⟨M.1 36 0, upd (M.1 41 0) 2 (pv_b b), fun _ _ => rfl, fun p hp => by omega, by rw [upd_ne (by decide)]; exact hk, upd_same _ _ _, fun p _ h2 => upd_ne h2, ?_⟩
  rw [fM_follow_L59_eq, mi_pv_self, hb]
  by_cases e : x = -1001
  · rw [if_pos e, decide_eq_false (by simpa using e)]; rfl
  · rw [if_neg e, decide_eq_true e]; rfl
