/-! PURE: a net laid over another -/
def pv_cp (s : pV) (o0 : Nat) (d : pV) (o n : Nat) : pV := fun p => if o ≤ p ∧ p < o + n then s (o0 + (p - o)) else d p
theorem ac_15 {j k : Nat} {M : mM} (h : j ≠ k) : mi_ac (15, k, 0) (15, j, 0) 0 0 3 M = some (mi_pv M 0 j (pv_cp (M.1 0 k) 0 (M.1 0 j) 0 3)) := by
  show (if (15, k, 0) ≠ ((15, j, 0) : mHd) ∧ (0 : Int32) = 0 ∧ (0 : Int32) = 0 ∧ 3 = 3 ∧ (3 : Int32) = Int32.ofNat 3 then some (mi_cpy M 0 k 0 0 j 0 3) else none) = _
  rw [if_pos ⟨fun e => h (by cases e; rfl), rfl, rfl, rfl, rfl⟩]
  rfl
theorem ac_12 {j k a b : Nat} {M : mM} (h : j ≠ k) : mi_ac (12, k, a) (12, j, b) 0 0 8 M = some (mi_pv M 0 j (pv_cp (M.1 0 k) (6 + 8 * a) (M.1 0 j) (6 + 8 * b) 8)) := by
  show (if (12, k, a) ≠ ((12, j, b) : mHd) ∧ (0 : Int32) = 0 ∧ (0 : Int32) = 0 ∧ 8 = 8 ∧ (8 : Int32) = Int32.ofNat 8 then some (mi_cpy M 0 k (6 + 8 * a) 0 j (6 + 8 * b) 8) else none) = _
  rw [if_pos ⟨fun e => h (by cases e; rfl), rfl, rfl, rfl, rfl⟩]
  rfl
theorem ac_14 {j k a b : Nat} {M : mM} (h : j ≠ k) : mi_ac (14, k, a) (14, j, b) 0 0 10 M = some (mi_pv M 0 j (pv_cp (M.1 0 k) (54 + 10 * a) (M.1 0 j) (54 + 10 * b) 10)) := by
  show (if (14, k, a) ≠ ((14, j, b) : mHd) ∧ (0 : Int32) = 0 ∧ (0 : Int32) = 0 ∧ 10 = 10 ∧ (10 : Int32) = Int32.ofNat 10 then some (mi_cpy M 0 k (54 + 10 * a) 0 j (54 + 10 * b) 10) else none) = _
  rw [if_pos ⟨fun e => h (by cases e; rfl), rfl, rfl, rfl, rfl⟩]
  rfl
section CP
variable {n m : Nat} {v : pV} {j k : Nat}
theorem cp_L40 (hjk : j ≠ k) (h4 : v 4 = nI n) (hn : n ≤ 6) : ∀ (c i : Nat) (M : mM), M.1 0 k = v → (∀ p, p < 6 → M.1 0 j p = v p) → (∀ a, a < i → ∀ f, f < 8 → M.1 0 j (6 + 8 * a + f) = v (6 + 8 * a + f)) → i + c = n → ∃ u : pV, (∀ p, p < 6 → u p = v p) ∧ (∀ a, a < n → ∀ f, f < 8 → u (6 + 8 * a + f) = v (6 + 8 * a + f)) ∧ fN_copyFrom_L40 j k (nI i) M = fN_copyFrom_L75 j k 0 (mi_pv M 0 j u) := by
  intro c
  induction c with
  | zero =>
    intro i M hk lo hr hi
    refine ⟨M.1 0 j, lo, fun a ha => hr a (by omega), ?_⟩
    rw [fN_copyFrom_L40_eq, lo 4 (by decide), h4, if_pos (nI_le (by omega) (by omega)), mi_pv_self]
  | succ c ih =>
    intro i M hk lo hr hi
    rw [fN_copyFrom_L40_eq, lo 4 (by decide), h4, if_neg (nI_ge (by omega) (by omega)), mi_ix_n (by omega : i < 6) (by decide)]
    simp only [Option.bind_some, ac_12 hjk, nI_1]
    obtain ⟨u, u1, u2, u3⟩ := ih (i + 1) (mi_pv M 0 j (pv_cp (M.1 0 k) (6 + 8 * i) (M.1 0 j) (6 + 8 * i) 8)) (by rw [mi_pv_nej (Ne.symm hjk)]; exact hk) (fun p hp => by
        rw [mi_pv_at]; unfold pv_cp; rw [if_neg (by omega)]; exact lo p hp) (fun a ha f hf => by
        rw [mi_pv_at]
        unfold pv_cp
        by_cases e : a = i
        · subst e
          rw [if_pos (by omega), hk, show 6 + 8 * a + (6 + 8 * a + f - (6 + 8 * a)) = 6 + 8 * a + f by omega]
        · rw [if_neg (by omega)]; exact hr a (by omega) f hf) (by omega)
    exact ⟨u, u1, u2, by rw [u3, mi_pv_pv]⟩
theorem cp_L75 (hjk : j ≠ k) (h5 : v 5 = nI m) (hm : m ≤ 10) (hn : n ≤ 6) : ∀ (c i : Nat) (M : mM), M.1 0 k = v → (∀ p, p < 6 → M.1 0 j p = v p) → (∀ a, a < n → ∀ f, f < 8 → M.1 0 j (6 + 8 * a + f) = v (6 + 8 * a + f)) → (∀ a, a < i → ∀ f, f < 10 → M.1 0 j (54 + 10 * a + f) = v (54 + 10 * a + f)) → i + c = m → ∃ u : pV, pv_eq n m v u ∧ fN_copyFrom_L75 j k (nI i) M = some (mi_pv M 0 j u) := by
  intro c
  induction c with
  | zero =>
    intro i M hk lo hr hl hi
    refine ⟨M.1 0 j, fun p hp => ?_, ?_⟩
    · rcases hp with hp | hp | hp
      · exact (lo p hp).symm
      · have := hr ((p - 6) / 8) (by omega) ((p - 6) % 8) (by omega)
        rw [show 6 + 8 * ((p - 6) / 8) + (p - 6) % 8 = p by omega] at this
        exact this.symm
      · have := hl ((p - 54) / 10) (by omega) ((p - 54) % 10) (by omega)
        rw [show 54 + 10 * ((p - 54) / 10) + (p - 54) % 10 = p by omega] at this
        exact this.symm
    · rw [fN_copyFrom_L75_eq, lo 5 (by decide), h5, if_pos (nI_le (by omega) (by omega)), mi_pv_self]
  | succ c ih =>
    intro i M hk lo hr hl hi
    rw [fN_copyFrom_L75_eq, lo 5 (by decide), h5, if_neg (nI_ge (by omega) (by omega)), mi_ix_n (by omega : i < 10) (by decide)]
    simp only [Option.bind_some, ac_14 hjk, nI_1]
    obtain ⟨u, u1, u2⟩ := ih (i + 1) (mi_pv M 0 j (pv_cp (M.1 0 k) (54 + 10 * i) (M.1 0 j) (54 + 10 * i) 10)) (by rw [mi_pv_nej (Ne.symm hjk)]; exact hk) (fun p hp => by
        rw [mi_pv_at]; unfold pv_cp; rw [if_neg (by omega)]; exact lo p hp) (fun a ha f hf => by
        rw [mi_pv_at]; unfold pv_cp; rw [if_neg (by omega)]; exact hr a ha f hf) (fun a ha f hf => by
        rw [mi_pv_at]
        unfold pv_cp
        by_cases e : a = i
        · subst e
          rw [if_pos (by omega), hk, show 54 + 10 * a + (54 + 10 * a + f - (54 + 10 * a)) = 54 + 10 * a + f by omega]
        · rw [if_neg (by omega)]; exact hl a (by omega) f hf) (by omega)
    exact ⟨u, u1, by rw [u2, mi_pv_pv]⟩
theorem cN_copyFrom {M : mM} (hjk : j ≠ k) (hv : M.1 0 k = v) (h4 : v 4 = nI n) (h5 : v 5 = nI m) (hn : n ≤ 6) (hm : m ≤ 10) : ∃ u : pV, pv_eq n m v u ∧ fN_copyFrom j k M = some (mi_pv M 0 j u) := by
  rw [fN_copyFrom_eq, ac_15 hjk]
  simp only [Option.bind_some, mi_set_pv, mi_pv_at, mi_pv_pv, mi_pv_nej (show k ≠ j from Ne.symm hjk), hv]
  generalize hu0 : pv_cp v 0 (upd (upd (upd (M.1 0 j) 4 (v 4)) 5 (v 5)) 3 (v 3)) 0 3 = u0
  have lo : ∀ p, p < 6 → u0 p = v p := fun p hp => by
    rw [← hu0]
    unfold pv_cp
    by_cases h3 : p < 3
    · rw [if_pos (by omega), show 0 + (p - 0) = p by omega]
    · rw [if_neg (by omega)]
      have : p = 3 ∨ p = 4 ∨ p = 5 := by omega
      rcases this with rfl | rfl | rfl
      · rw [upd_same]
      · rw [upd_ne (by decide), upd_ne (by decide), upd_same]
      · rw [upd_ne (by decide), upd_same]
  obtain ⟨u1, a1, a2, a3⟩ := cp_L40 hjk h4 hn n 0 (mi_pv M 0 j u0) (by rw [mi_pv_nej (Ne.symm hjk)]; exact hv) (fun p hp => by rw [mi_pv_at]; exact lo p hp) (fun a ha => by omega) (by omega)
  obtain ⟨u2, b1, b2⟩ := cp_L75 (n := n) hjk h5 hm hn m 0 (mi_pv M 0 j u1) (by rw [mi_pv_nej (Ne.symm hjk)]; exact hv) (fun p hp => by rw [mi_pv_at]; exact a1 p hp) (fun a ha f hf => by rw [mi_pv_at]; exact a2 a ha f hf) (fun a ha => by omega) (by omega)
  refine ⟨u2, b1, ?_⟩
  rw [show (0 : Int32) = nI 0 from rfl, a3, mi_pv_pv, show (0 : Int32) = nI 0 from rfl, b2, mi_pv_pv]
end CP
