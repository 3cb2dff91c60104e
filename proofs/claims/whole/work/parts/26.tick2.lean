section PC
variable {n m T : Nat} {v : pV} {j : Nat} {M : mM}
/-- a link's store before it slips -/
theorem pv_f0_i (wf : pv_wf n m T v) (hb : pv_bits n v) {l : Nat} (hl : l < m) : -2 ≤ (pv_f0 v l).toInt ∧ (pv_f0 v l).toInt ≤ 2 * (v 0).toInt + 2 ∧ (2 * v 0).toInt = 2 * (v 0).toInt := by
  obtain ⟨a1, -⟩ := wf.fr hl
  obtain ⟨b1, -⟩ := wf.to hl
  obtain ⟨x1, x2⟩ := hb _ a1
  obtain ⟨y1, y2⟩ := hb _ b1
  obtain ⟨z1, z2⟩ := (wf.2.2.2.2.2.2.2.2 l hl).2.2.2.2.1
  obtain ⟨f1, f2⟩ := wf.2.2.2.2.1
  have k2 : (2 : Int32).toInt = 2 := by decide
  have e1 : (v (54 + 10 * l + 4) + v (6 + 8 * pv_fr v l + 7)).toInt = (v (54 + 10 * l + 4)).toInt + (v (6 + 8 * pv_fr v l + 7)).toInt := i_add (by omega) (by omega)
  have e2 : (pv_f0 v l).toInt = (v (54 + 10 * l + 4)).toInt + (v (6 + 8 * pv_fr v l + 7)).toInt - (v (6 + 8 * pv_to v l + 7)).toInt := by
    unfold pv_f0
    rw [i_sub (by omega) (by omega), e1]
  refine ⟨by omega, by omega, ?_⟩
  rw [i_mul (by rw [k2]; omega) (by rw [k2]; omega), k2]
/-- the store behind it -/
def pv_x (v : pV) (l : Nat) : Int32 := if pv_f0 v l ≤ 2 * v 0 then (if 0 ≤ pv_f0 v l then pv_f0 v l else pv_f0 v l + v 0) else pv_f0 v l - v 0
theorem pv_x_i (wf : pv_wf n m T v) (hb : pv_bits n v) {l : Nat} (hl : l < m) : 0 ≤ (pv_x v l).toInt ∧ (pv_x v l).toInt ≤ 2 * (v 0).toInt := by
  obtain ⟨a, b, c⟩ := pv_f0_i wf hb hl
  obtain ⟨f1, f2⟩ := wf.2.2.2.2.1
  have k0 : (0 : Int32).toInt = 0 := by decide
  unfold pv_x
  split
  · next h1 =>
    rw [i_le, c] at h1
    split
    · next h2 => rw [i_le, k0] at h2; exact ⟨h2, h1⟩
    · next h2 =>
      rw [i_le, k0] at h2
      rw [i_add (by omega) (by omega)]
      omega
  · next h1 =>
    rw [i_le, c] at h1
    rw [i_sub (by omega) (by omega)]
    omega
theorem cM_slips (hv : M.1 30 0 = v) (wf : pv_wf n m T v) (hb : pv_bits n v) {l : Nat} (hl : l < m) : fM_slips (nI l) M = some ((pv_slip l v).2, mi_pv M 30 0 (pv_slip l v).1) := by
  have hn := wf.2.2.1
  have hm := wf.2.2.2.1
  have hl10 : l < 10 := by omega
  obtain ⟨a1, a2⟩ := wf.fr hl
  obtain ⟨b1, b2⟩ := wf.to hl
  obtain ⟨i1, i2, i3⟩ := pv_f0_i wf hb hl
  obtain ⟨f1, f2⟩ := wf.2.2.2.2.1
  have k0 : (0 : Int32).toInt = 0 := by decide
  -- from the store on
  have h74 : ∀ (x c : Int32) (u : pV) (M' : mM), M'.1 30 0 = u → 0 ≤ x.toInt → x.toInt ≤ 200 → fM_slips_L74 (nI l) (v 0) x c M' = some (c, mi_pv M' 30 0 (pv_bey u l (v 0) x)) := by
    intro x c u M' hu hx0 hx1
    rw [fM_slips_L74_eq, if_pos (by rw [i_le, k0]; exact hx0)]
    rw [show fM_putLink (nI l) 4 x M' = _ from cM_putLink hu (w := 4) hl10 (by decide) x]
    simp only [Option.bind_some]
    rw [show fM_linkAt (nI l) 7 (mi_pv M' 30 0 _) = _ from cM_linkAt (mi_pv_at _ _ _ _) (w := 7) hl10 (by decide)]
    simp only [Option.bind_some]
    rw [show fM_linkAt (nI l) 7 (mi_pv M' 30 0 _) = _ from cM_linkAt (mi_pv_at _ _ _ _) (w := 7) hl10 (by decide)]
    simp only [Option.bind_some]
    have low : (if upd u (54 + 10 * l + 4) x (54 + 10 * l + 7) ≤ x then fM_slips_L137 (nI l) (v 0) x c (nI l) 7 (upd u (54 + 10 * l + 4) x (54 + 10 * l + 7)) (mi_pv M' 30 0 (upd u (54 + 10 * l + 4) x)) else fM_slips_L137 (nI l) (v 0) x c (nI l) 7 x (mi_pv M' 30 0 (upd u (54 + 10 * l + 4) x))) = fM_slips_L137 (nI l) (v 0) x c (nI l) 7 (if x < upd u (54 + 10 * l + 4) x (54 + 10 * l + 7) then x else upd u (54 + 10 * l + 4) x (54 + 10 * l + 7)) (mi_pv M' 30 0 (upd u (54 + 10 * l + 4) x)) := by
      by_cases h : x < upd u (54 + 10 * l + 4) x (54 + 10 * l + 7)
      · rw [if_neg (Int32.not_le.mpr h), if_pos h]
      · rw [if_pos (Int32.not_lt.mp h), if_neg h]
    rw [low, fM_slips_L137_eq]
    rw [show ∀ z, fM_putLink (nI l) 7 z (mi_pv M' 30 0 _) = _ from fun z => cM_putLink (mi_pv_at _ _ _ _) (w := 7) hl10 (by decide) z]
    simp only [Option.bind_some, mi_pv_pv]
    rw [show upd (upd u (54 + 10 * l + 4) x) (54 + 10 * l + 7) (if x < upd u (54 + 10 * l + 4) x (54 + 10 * l + 7) then x else upd u (54 + 10 * l + 4) x (54 + 10 * l + 7)) = pv_low u l x from rfl]
    rw [show fM_linkAt (nI l) 8 (mi_pv M' 30 0 _) = _ from cM_linkAt (mi_pv_at _ _ _ _) (w := 8) hl10 (by decide)]
    simp only [Option.bind_some]
    rw [show fM_linkAt (nI l) 8 (mi_pv M' 30 0 _) = _ from cM_linkAt (mi_pv_at _ _ _ _) (w := 8) hl10 (by decide)]
    simp only [Option.bind_some]
    have high : (if x ≤ pv_low u l x (54 + 10 * l + 8) then fM_slips_L166 (nI l) (v 0) x c (nI l) 8 (pv_low u l x (54 + 10 * l + 8)) (mi_pv M' 30 0 (pv_low u l x)) else fM_slips_L166 (nI l) (v 0) x c (nI l) 8 x (mi_pv M' 30 0 (pv_low u l x))) = fM_slips_L166 (nI l) (v 0) x c (nI l) 8 (if pv_low u l x (54 + 10 * l + 8) < x then x else pv_low u l x (54 + 10 * l + 8)) (mi_pv M' 30 0 (pv_low u l x)) := by
      by_cases h : pv_low u l x (54 + 10 * l + 8) < x
      · rw [if_neg (Int32.not_le.mpr h), if_pos h]
      · rw [if_pos (Int32.not_lt.mp h), if_neg h]
    rw [high, fM_slips_L166_eq]
    rw [show ∀ z, fM_putLink (nI l) 8 z (mi_pv M' 30 0 _) = _ from fun z => cM_putLink (mi_pv_at _ _ _ _) (w := 8) hl10 (by decide) z]
    simp only [Option.bind_some, mi_pv_pv]
    rw [show upd (pv_low u l x) (54 + 10 * l + 8) (if pv_low u l x (54 + 10 * l + 8) < x then x else pv_low u l x (54 + 10 * l + 8)) = pv_high u l x from rfl]
    have away : (if x ≤ v 0 then fM_slips_L183 (nI l) c (v 0 - x) (mi_pv M' 30 0 (pv_high u l x)) else fM_slips_L183 (nI l) c (x - v 0) (mi_pv M' 30 0 (pv_high u l x))) = fM_slips_L183 (nI l) c (if 0 ≤ x - v 0 then x - v 0 else 0 - (x - v 0)) (mi_pv M' 30 0 (pv_high u l x)) := by
      have e1 : (x - v 0).toInt = x.toInt - (v 0).toInt := i_sub (by omega) (by omega)
      have e2 : (v 0 - x).toInt = (v 0).toInt - x.toInt := i_sub (by omega) (by omega)
      have e3 : (0 - (x - v 0)).toInt = (v 0).toInt - x.toInt := by rw [i_sub (by rw [k0, e1]; omega) (by rw [k0, e1]; omega), k0, e1]; omega
      by_cases h : x ≤ v 0
      · rw [if_pos h]
        congr 1
        rw [i_le] at h
        by_cases h2 : 0 ≤ x - v 0
        · rw [if_pos h2, i_eq, e1, e2]
          rw [i_le, k0, e1] at h2
          omega
        · rw [if_neg h2, i_eq, e2, e3]
      · rw [if_neg h, if_pos (by rw [i_le] at h ⊢; rw [k0, e1]; omega)]
    rw [away, fM_slips_L183_eq]
    rw [show fM_linkAt (nI l) 9 (mi_pv M' 30 0 _) = _ from cM_linkAt (mi_pv_at _ _ _ _) (w := 9) hl10 (by decide)]
    simp only [Option.bind_some, ix_1_154, mi_pv_at, Nat.zero_add]
    unfold pv_bey
    by_cases h : (if 0 ≤ x - v 0 then x - v 0 else 0 - (x - v 0)) ≤ pv_high u l x 1
    · rw [if_pos h, if_pos h, fM_slips_L212_eq]
      rw [show ∀ z, fM_putLink (nI l) 9 z (mi_pv M' 30 0 _) = _ from fun z => cM_putLink (mi_pv_at _ _ _ _) (w := 9) hl10 (by decide) z]
      simp only [Option.bind_some, mi_pv_pv, Int32.add_zero, upd_id]
    · rw [if_neg h, if_neg h, fM_slips_L212_eq]
      rw [show ∀ z, fM_putLink (nI l) 9 z (mi_pv M' 30 0 _) = _ from fun z => cM_putLink (mi_pv_at _ _ _ _) (w := 9) hl10 (by decide) z]
      simp only [Option.bind_some, mi_pv_pv]
  rw [fM_slips_eq]
  rw [show fM_linkAt (nI l) 4 M = _ from cM_linkAt hv (w := 4) hl10 (by decide)]
  simp only [ix_0_154, Option.bind_some, hv, Nat.zero_add]
  rw [show fM_linkAt (nI l) 0 M = _ from cM_linkAt hv (w := 0) hl10 (by decide)]
  simp only [Option.bind_some, a2]
  rw [show fM_nodeAt (nI (pv_fr v l)) 7 M = _ from cM_nodeAt hv (w := 7) (by omega) (by decide)]
  simp only [Option.bind_some]
  rw [show fM_linkAt (nI l) 1 M = _ from cM_linkAt hv (w := 1) hl10 (by decide)]
  simp only [Option.bind_some, b2]
  rw [show fM_nodeAt (nI (pv_to v l)) 7 M = _ from cM_nodeAt hv (w := 7) (by omega) (by decide)]
  simp only [Option.bind_some]
  rw [show v (54 + 10 * l + 4) + v (6 + 8 * pv_fr v l + 7) - v (6 + 8 * pv_to v l + 7) = pv_f0 v l from rfl]
  rw [fM_slips_L43_eq]
  unfold pv_slip
  by_cases h1 : pv_f0 v l ≤ 2 * v 0
  · rw [if_pos h1, if_pos h1]
    by_cases h2 : 0 ≤ pv_f0 v l
    · rw [if_pos h2]
      rw [i_le, k0] at h2
      rw [i_le, i3] at h1
      exact h74 _ _ v M hv h2 (by omega)
    · rw [if_neg h2, fM_slips_L74_eq, if_neg h2]
      rw [show fM_linkAt (nI l) 6 M = _ from cM_linkAt hv (w := 6) hl10 (by decide)]
      simp only [Option.bind_some]
      rw [show ∀ z, fM_putLink (nI l) 6 z M = _ from fun z => cM_putLink hv (w := 6) hl10 (by decide) z]
      simp only [Option.bind_some]
      rw [i_le, k0] at h2
      have e : (pv_f0 v l + v 0).toInt = (pv_f0 v l).toInt + (v 0).toInt := i_add (by omega) (by omega)
      rw [h74 _ _ _ _ (mi_pv_at _ _ _ _) (by omega) (by omega), mi_pv_pv]
      rfl
  · rw [if_neg h1, if_neg h1]
    rw [show fM_linkAt (nI l) 5 M = _ from cM_linkAt hv (w := 5) hl10 (by decide)]
    simp only [Option.bind_some]
    rw [show ∀ z, fM_putLink (nI l) 5 z M = _ from fun z => cM_putLink hv (w := 5) hl10 (by decide) z]
    simp only [Option.bind_some]
    rw [i_le, i3] at h1
    have e : (pv_f0 v l - v 0).toInt = (pv_f0 v l).toInt - (v 0).toInt := i_sub (by omega) (by omega)
    rw [fM_slips_L43_eq, if_pos (by rw [i_le, i3, e]; omega)]
    rw [h74 _ _ _ _ (mi_pv_at _ _ _ _) (by omega) (by omega), mi_pv_pv]
    rfl
end PC
