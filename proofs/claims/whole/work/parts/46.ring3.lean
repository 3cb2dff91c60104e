/-! PURE: follow of the model; chain and ring agree -/
theorem cM_folL {n m T : Nat} {v : pV} (wf : pv_wf n m T v) : ∀ (c k q : Nat) (x : Int32) (M : mM), k + c = 6 → q < 64 → pc6 q = k → (x = -1001 ∨ ∃ a, a < n ∧ x = nI a) → M.1 30 0 = v → M.1 41 0 1 = nI k → ∃ P Q : pV, (∀ p, p < k → P p = M.1 36 0 p) ∧ (∀ p, p < (pv_fol v c q x).1.length → P (k + p) = (pv_fol v c q x).1.getD p (-1001)) ∧ Q 1 = nI (k + (pv_fol v c q x).1.length) ∧ Q 2 = pv_b (pv_fol v c q x).2 ∧ (∀ p, p ≠ 1 → p ≠ 2 → Q p = M.1 41 0 p) ∧ fM_follow_L9 (nI q) x M = some (mi_pv (mi_pv M 36 0 P) 41 0 Q) := by
  obtain ⟨h4, h5, hn, hm, -⟩ := id wf
  intro c
  induction c with
  | zero =>
    intro k q x M hk hq hp hx hv h1
    obtain ⟨P, Q, a1, a2, a3, a4, a5, a6⟩ := cM_fol59 (M := M) (x := x) (b := decide (¬ x = -1001)) rfl h1
    refine ⟨P, Q, a1, a2, a3, a4, a5, ?_⟩
    rw [fM_follow_L9_eq]
    by_cases e : x = -1001
    · rw [if_pos e]; exact a6
    · rw [if_neg e]
      obtain ⟨a, ha, rfl⟩ := hx.resolve_left e
      obtain ⟨m1, m2, m3, m4, m5, m6, m7⟩ := msk_fin q hq a (by omega)
      rw [if_pos (fun z => by have := m2.mp z; rw [m6 (by omega)] at this; exact absurd this (by decide))]
      exact a6
  | succ c ih =>
    intro k q x M hk hq hp hx hv h1
    by_cases e : x = -1001
    · rw [fM_follow_L9_eq, if_pos e, pv_fol_S, if_pos e]
      exact cM_fol59 (b := false) (by rw [e]; decide) h1
    · obtain ⟨a, ha, rfl⟩ := hx.resolve_left e
      obtain ⟨m1, m2, m3, m4, m5, m6, m7⟩ := msk_fin q hq a (by omega)
      rw [fM_follow_L9_eq, if_neg e, pv_fol_S, if_neg e, nI_clp a (by omega)]
      by_cases tb : q.testBit a = true
      · rw [if_pos tb, if_pos (fun z => by rw [m2.mp z] at tb; exact absurd tb (by decide))]
        exact cM_fol59 (b := true) (by rw [decide_eq_true e]) h1
      · rw [if_neg tb, if_neg (fun z => z (m2.mpr (by simpa using tb))), h1, mi_ix_n (by omega) (by decide), Option.bind_some]
        have eM : mi_set (mi_set M 36 0 (0 + k) (nI a)) 41 0 1 ((mi_set M 36 0 (0 + k) (nI a)).1 41 0 1 + 1) = mi_pv (mi_pv M 36 0 (upd (M.1 36 0) k (nI a))) 41 0 (upd (M.1 41 0) 1 (nI (k + 1))) := by
          rw [Nat.zero_add, mi_set_pv, mi_set_pv, mi_pv_net (by decide), h1, nI_1]
        have hv' : (mi_pv (mi_pv M 36 0 (upd (M.1 36 0) k (nI a))) 41 0 (upd (M.1 41 0) 1 (nI (k + 1)))).1 30 0 = v := by rw [mi_pv_net (by decide), mi_pv_net (by decide)]; exact hv
        rw [eM, cM_sourceOf hv' wf ha, Option.bind_some]
        simp only
        rw [m3]
        obtain ⟨P, Q, a1, a2, a3, a4, a5, a6⟩ := ih (k + 1) (q ||| (1 <<< a)) (pv_src v a) (mi_pv (mi_pv M 36 0 (upd (M.1 36 0) k (nI a))) 41 0 (upd (M.1 41 0) 1 (nI (k + 1)))) (by omega) m4 (by rw [m5 (by simpa using tb)]; omega) (wf.src ha) hv' (by rw [mi_pv_at, upd_same])
        refine ⟨P, Q, fun p hp => ?_, fun p hp => ?_, ?_, a4, fun p q1 q2 => ?_, ?_⟩
        · rw [a1 p (by omega), mi_pv_net (by decide), mi_pv_at, upd_ne (by omega)]
        · rcases p with _ | p
          · rw [Nat.add_zero, a1 k (by omega), mi_pv_net (by decide), mi_pv_at, upd_same]; rfl
          · rw [show k + (p + 1) = k + 1 + p by omega, a2 p (by simpa using hp)]; rfl
        · rw [a3]
          show nI _ = nI (k + ((pv_fol v c (q ||| (1 <<< a)) (pv_src v a)).1.length + 1))
          rw [show k + 1 + (pv_fol v c (q ||| (1 <<< a)) (pv_src v a)).1.length = k + ((pv_fol v c (q ||| (1 <<< a)) (pv_src v a)).1.length + 1) by omega]
        · rw [a5 p q1 q2, mi_pv_at, upd_ne q1]
        · rw [a6, mi_pv2]
theorem Mst.pq {M : mM} {d t : Nat} {v tx : pV} {st : Nat → pV} {rf : Nat → Int32} (h : Mst M d v st rf tx t) {P Q : pV} (hQ : ∀ p, p ≠ 1 → p ≠ 2 → Q p = M.1 41 0 p) : Mst (mi_pv (mi_pv M 36 0 P) 41 0 Q) d v st rf tx t := by
  obtain ⟨x1, x2, x3, x4, x5, x6⟩ := h
  refine ⟨?_, ?_, fun k hk p hp => ?_, fun i hi => ?_, ?_, ?_⟩
  · rw [mi_pv_at, hQ 0 (by decide) (by decide)]; exact x1
  · rw [mi_pv_net (by decide), mi_pv_net (by decide)]; exact x2
  · rw [mi_pv_net (by decide), mi_pv_net (by decide)]; exact x3 k hk p hp
  · rw [mi_pv_net (by decide), mi_pv_net (by decide)]; exact x4 i hi
  · rw [mi_pv_at, hQ 3 (by decide) (by decide)]; exact x5
  · rw [mi_pv_net (by decide), mi_pv_net (by decide)]; exact x6
theorem cM_follow {n m T d t : Nat} {M : mM} {v tx : pV} {st : Nat → pV} {rf : Nat → Int32} (h : Mst M d v st rf tx t) (wf : pv_wf n m T v) {a : Nat} (ha : a < n) : ∃ M', frM M M' ∧ Mst M' d v st rf tx t ∧ M'.2.2 = M.2.2 ∧ M'.1 41 0 1 = nI (pv_fol v 6 0 (nI a)).1.length ∧ M'.1 41 0 2 = pv_b (pv_fol v 6 0 (nI a)).2 ∧ (∀ p, p < (pv_fol v 6 0 (nI a)).1.length → M'.1 36 0 p = (pv_fol v 6 0 (nI a)).1.getD p (-1001)) ∧ fM_follow (nI a) M = some M' := by
  have hv : M.1 30 0 = v := h.2.1
  obtain ⟨P, Q, a1, a2, a3, a4, a5, a6⟩ := cM_folL wf 6 0 0 (nI a) (mi_pv M 41 0 (upd (M.1 41 0) 1 0)) (by omega) (by decide) (by decide) (Or.inr ⟨a, ha, rfl⟩) (by rw [mi_pv_net (by decide)]; exact hv) (by rw [mi_pv_at, upd_same]; rfl)
  have e : mi_pv (mi_pv (mi_pv M 41 0 (upd (M.1 41 0) 1 0)) 36 0 P) 41 0 Q = mi_pv (mi_pv M 36 0 P) 41 0 Q := by
    rw [mi_pv_comm (M := M) (t := 41) (j := 0) (t' := 36) (j' := 0) (w := P) (by decide), mi_pv_pv]
  refine ⟨mi_pv (mi_pv M 36 0 P) 41 0 Q, (frM.pv (by decide) (by decide)).tr (frM.pv (by decide) (by decide)), h.pq (fun p q1 q2 => by rw [a5 p q1 q2, mi_pv_at, upd_ne q1]), rfl, ?_, ?_, fun p hp => ?_, ?_⟩
  · rw [mi_pv_at, a3, Nat.zero_add]
  · rw [mi_pv_at, a4]
  · rw [mi_pv_net (by decide), mi_pv_at, ← a2 p hp, Nat.zero_add]
  · rw [fM_follow_eq, ← e]; exact a6
theorem cM_ringOf {n m T d t : Nat} {M : mM} {v tx : pV} {st : Nat → pV} {rf : Nat → Int32} (h : Mst M d v st rf tx t) (wf : pv_wf n m T v) {a : Nat} (ha : a < n) : ∃ M', frM M M' ∧ Mst M' d v st rf tx t ∧ M'.2.2 = M.2.2 ∧ fM_ringOf (nI a) M = some (pv_b (pv_fol v 6 0 (nI a)).2, M') := by
  obtain ⟨M', b1, b2, b3, b4, b5, b6, b7⟩ := cM_follow h wf ha
  refine ⟨M', b1, b2, b3, ?_⟩
  rw [fM_ringOf_eq, b7, Option.bind_some, b5]
  cases (pv_fol v 6 0 (nI a)).2 <;> rfl
theorem cN_isRing {n m T j : Nat} {v : pV} {M : mM} (hv : M.1 0 j = v) (wf : pv_wf n m T v) {a : Nat} (ha : a < n) : fN_isRing j (nI a) M = some (pv_b (pv_fol v 6 0 (nI a)).2, M) := by
  rw [fN_isRing_eq]
  exact cN_ringL hv wf 6 0 0 (nI a) (by omega) (by decide) (by decide) (Or.inr ⟨a, ha, rfl⟩) (fun b hb tb => by rw [Nat.zero_testBit] at tb; exact absurd tb (by decide))
