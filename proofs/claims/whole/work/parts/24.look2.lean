section PM
variable {n m T : Nat} {v : pV}
/-- four numbers of a row written, in any order -/
theorem pv_four {u : pV} {r : Nat} {x0 x1 x2 x3 : Int32} {z : pV} (h0 : z (r + 0) = x0) (h1 : z (r + 1) = x1) (h2 : z (r + 2) = x2) (h3 : z (r + 3) = x3) (ho : ∀ p, p ≠ r + 0 → p ≠ r + 1 → p ≠ r + 2 → p ≠ r + 3 → z p = u p) : z = upd (upd (upd (upd u (r + 0) x0) (r + 1) x1) (r + 2) x2) (r + 3) x3 := by
  funext p
  by_cases e3 : p = r + 3
  · rw [e3, upd_same, h3]
  · rw [upd_ne e3]
    by_cases e2 : p = r + 2
    · rw [e2, upd_same, h2]
    · rw [upd_ne e2]
      by_cases e1 : p = r + 1
      · rw [e1, upd_same, h1]
      · rw [upd_ne e1]
        by_cases e0 : p = r + 0
        · rw [e0, upd_same, h0]
        · rw [upd_ne e0, ho p e0 e1 e2 e3]
theorem pv_lkp_row {i : Nat} (hi : i < n) : upd (upd (upd (upd (pv_lkp n m v (4 * i)) (6 + 8 * i + 0) (pv_lf m v i 0)) (6 + 8 * i + 1) (pv_lf m v i 1)) (6 + 8 * i + 2) (pv_lf m v i 2)) (6 + 8 * i + 3) (pv_lf m v i 3) = pv_lkp n m v (4 * (i + 1)) := by
  rw [show upd (pv_lkp n m v (4 * i)) (6 + 8 * i + 0) (pv_lf m v i 0) = pv_lkp n m v (4 * i + 1) from pv_lkp_S (w := 0) hi (by decide), show upd (pv_lkp n m v (4 * i + 1)) (6 + 8 * i + 1) (pv_lf m v i 1) = pv_lkp n m v (4 * i + 2) from pv_lkp_S (w := 1) hi (by decide), show upd (pv_lkp n m v (4 * i + 2)) (6 + 8 * i + 2) (pv_lf m v i 2) = pv_lkp n m v (4 * i + 3) from pv_lkp_S (w := 2) hi (by decide)]
  exact pv_lkp_S (w := 3) hi (by decide)
theorem pv_chp_row {i : Nat} : pv_chp m v (4 * (i + 1)) = (pv_chp m v (4 * i) || (decide (v (6 + 8 * i + 0) ≠ pv_lf m v i 0) || (decide (v (6 + 8 * i + 1) ≠ pv_lf m v i 1) || (decide (v (6 + 8 * i + 2) ≠ pv_lf m v i 2) || decide (v (6 + 8 * i + 3) ≠ pv_lf m v i 3))))) := by
  rw [show 4 * (i + 1) = 4 * i + 3 + 1 by omega, pv_chp_S (by decide), pv_chp_S (w := 2) (by decide), pv_chp_S (w := 1) (by decide), pv_chp_S (w := 0) (by decide)]
  simp only [Bool.or_assoc, Nat.add_zero]
theorem cM_look_170 (wf : pv_wf n m T v) {i : Nat} (hi : i < n) {M : mM} {u : pV} {b : Bool} (hu : M.1 30 0 = u) (hA : M.1 34 0 i = pv_take m v i) (h0 : u (6 + 8 * i + 0) = pv_lf m v i 0) (h1 : u (6 + 8 * i + 1) = pv_lf m v i 1) (h2 : u (6 + 8 * i + 2) = pv_lf m v i 2) :
    fM_look_L170 (pv_b b) (nI i) (v (6 + 8 * i + 0)) (v (6 + 8 * i + 1)) (v (6 + 8 * i + 2)) (v (6 + 8 * i + 3)) M = fM_look_L79 (pv_b (b || (decide (v (6 + 8 * i + 0) ≠ pv_lf m v i 0) || (decide (v (6 + 8 * i + 1) ≠ pv_lf m v i 1) || (decide (v (6 + 8 * i + 2) ≠ pv_lf m v i 2) || decide (v (6 + 8 * i + 3) ≠ pv_lf m v i 3)))))) (nI (i + 1)) (mi_pv M 30 0 (upd u (6 + 8 * i + 3) (pv_lf m v i 3))) := by
  have hn := wf.2.2.1
  have h3 : pv_lf m v i 3 = pv_take m v i := by unfold pv_lf; rw [if_pos rfl]
  rw [fM_look_L170_eq]
  simp only [mi_ix_n (by omega : i < 6) (by decide), Option.bind_some, Nat.zero_add, hA, nI_1]
  rw [show fM_putNode (nI i) 3 (pv_take m v i) M = _ from cM_putNode hu (w := 3) (by omega) (by decide) _]
  simp only [Option.bind_some]
  have hz : (mi_pv M 30 0 (upd u (6 + 8 * i + 3) (pv_take m v i))).1 30 0 = upd u (6 + 8 * i + 3) (pv_take m v i) := mi_pv_at _ _ _ _
  rw [show fM_nodeAt (nI i) 0 (mi_pv M 30 0 (upd u (6 + 8 * i + 3) (pv_take m v i))) = _ from cM_nodeAt hz (w := 0) (by omega) (by decide)]
  simp only [Option.bind_some]
  rw [show fM_nodeAt (nI i) 1 (mi_pv M 30 0 (upd u (6 + 8 * i + 3) (pv_take m v i))) = _ from cM_nodeAt hz (w := 1) (by omega) (by decide)]
  simp only [Option.bind_some]
  rw [show fM_nodeAt (nI i) 2 (mi_pv M 30 0 (upd u (6 + 8 * i + 3) (pv_take m v i))) = _ from cM_nodeAt hz (w := 2) (by omega) (by decide)]
  simp only [Option.bind_some]
  rw [upd_ne (by omega), upd_ne (by omega), upd_ne (by omega), h0, h1, h2, mi_pv_net (by decide), hA, h3]
  cases b with
  | true => rw [if_pos (by decide)]; rfl
  | false =>
    rw [if_neg (by decide)]
    by_cases e0 : v (6 + 8 * i + 0) = pv_lf m v i 0
    · rw [if_neg (fun q => q e0)]
      by_cases e1 : v (6 + 8 * i + 1) = pv_lf m v i 1
      · rw [if_neg (fun q => q e1)]
        by_cases e2 : v (6 + 8 * i + 2) = pv_lf m v i 2
        · rw [if_neg (fun q => q e2)]
          by_cases e3 : v (6 + 8 * i + 3) = pv_take m v i
          · have e0' : v (6 + 8 * i) = pv_lf m v i 0 := e0
            rw [if_pos e3]; simp [e0', e1, e2, e3, pv_b]
          · rw [if_neg e3]; simp [e3, pv_b]
        · rw [if_pos e2]; simp [e2, pv_b]
      · rw [if_pos e1]; simp [e1, pv_b]
    · have e0' : ¬ v (6 + 8 * i) = pv_lf m v i 0 := e0
      rw [if_pos e0]; simp [e0', pv_b]
theorem cM_look_row (wf : pv_wf n m T v) {A B : pV} {i : Nat} (hi : i < n) (hAB : pv_AB m v A B i) {M : mM} (hv : M.1 30 0 = pv_lkp n m v (4 * i)) (hA : M.1 34 0 = A) (hB : M.1 35 0 = B) :
    fM_look_L79 (pv_b (pv_chp m v (4 * i))) (nI i) M = fM_look_L79 (pv_b (pv_chp m v (4 * (i + 1)))) (nI (i + 1)) (mi_pv M 30 0 (pv_lkp n m v (4 * (i + 1)))) := by
  have hn := wf.2.2.1
  have hm := wf.2.2.2.1
  rw [fM_look_L79_eq]
  simp only [ix_4_154, Option.bind_some, Nat.zero_add, hv, pv_lkp_lo (n := n) (m := m) (c := 4 * i) (v := v) (show 4 < 6 by decide), wf.1]
  rw [if_neg (nI_ge (by omega) (by omega))]
  have rd : ∀ w, w < 8 → pv_lkp n m v (4 * i) (6 + 8 * i + w) = v (6 + 8 * i + w) := fun w hw => pv_lkp_ge hw (by omega)
  rw [show fM_nodeAt (nI i) 0 M = _ from cM_nodeAt hv (w := 0) (by omega) (by decide), rd 0 (by decide)]
  simp only [Option.bind_some]
  rw [show fM_nodeAt (nI i) 1 M = _ from cM_nodeAt hv (w := 1) (by omega) (by decide), rd 1 (by decide)]
  simp only [Option.bind_some]
  rw [show fM_nodeAt (nI i) 2 M = _ from cM_nodeAt hv (w := 2) (by omega) (by decide), rd 2 (by decide)]
  simp only [Option.bind_some]
  rw [show fM_nodeAt (nI i) 3 M = _ from cM_nodeAt hv (w := 3) (by omega) (by decide), rd 3 (by decide)]
  simp only [Option.bind_some]
  rw [cM_begin hv (by omega), rd 4 (by decide), rd 5 (by decide)]
  simp only [Option.bind_some]
  have kA : ∀ u : pV, (mi_pv M 30 0 u).1 34 0 = A := fun u => by rw [mi_pv_net (by decide)]; exact hA
  have kB : ∀ u : pV, (mi_pv M 30 0 u).1 35 0 = B := fun u => by rw [mi_pv_net (by decide)]; exact hB
  have fin : ∀ u : pV, u (6 + 8 * i + 0) = pv_lf m v i 0 → u (6 + 8 * i + 1) = pv_lf m v i 1 → u (6 + 8 * i + 2) = pv_lf m v i 2 → (∀ p, p ≠ 6 + 8 * i + 0 → p ≠ 6 + 8 * i + 1 → p ≠ 6 + 8 * i + 2 → p ≠ 6 + 8 * i + 3 → u p = pv_lkp n m v (4 * i) p) →
      fM_look_L170 (pv_b (pv_chp m v (4 * i))) (nI i) (v (6 + 8 * i + 0)) (v (6 + 8 * i + 1)) (v (6 + 8 * i + 2)) (v (6 + 8 * i + 3)) (mi_pv M 30 0 u) = fM_look_L79 (pv_b (pv_chp m v (4 * (i + 1)))) (nI (i + 1)) (mi_pv M 30 0 (pv_lkp n m v (4 * (i + 1)))) := by
    intro u u0 u1 u2 uo
    rw [cM_look_170 wf hi (mi_pv_at _ _ _ _) (by rw [kA]; exact hAB.1) u0 u1 u2, ← pv_chp_row, mi_pv_pv, ← pv_lkp_row hi]
    congr 2
    refine pv_four (by rw [upd_ne (by omega)]; exact u0) (by rw [upd_ne (by omega)]; exact u1) (by rw [upd_ne (by omega)]; exact u2) (upd_same _ _ _) (fun p a b c d => by rw [upd_ne d]; exact uo p a b c d)
  rw [fM_look_L128_eq, if_neg (by decide)]
  simp only [mi_ix_n (by omega : i < 6) (by decide), Option.bind_some, Nat.zero_add, kA, hAB.1]
  rcases pv_take_ok (m := m) (v := v) (i := i) with e | ⟨k, hkm, e⟩
  · rw [if_pos e]
    have l0 : pv_lf m v i 0 = v (6 + 8 * i + 4) := by unfold pv_lf; rw [e]; rfl
    have l1 : pv_lf m v i 1 = 0 := by unfold pv_lf; rw [e]; rfl
    have l2 : pv_lf m v i 2 = v (6 + 8 * i + 5) := by unfold pv_lf; rw [e]; rfl
    refine fin _ ?_ ?_ ?_ ?_
    · rw [upd_ne (by omega), upd_ne (by omega), upd_ne (by omega), upd_same, l0]
    · rw [upd_ne (by omega), upd_ne (by omega), upd_same, l1]
    · rw [upd_ne (by omega), upd_same, l2]
    · intro p a b c d
      rw [upd_ne d, upd_ne c, upd_ne b, upd_ne a]
  · have hne : ¬ pv_take m v i = -1001 := by rw [e]; exact nI_nNONE k (by omega)
    have lw : ∀ w, w < 3 → pv_lf m v i w = B (3 * i + w) := fun w hw => by
      rw [hAB.2 hne w hw]
      unfold pv_lf
      rw [if_neg (by omega), if_neg hne]
    rw [if_neg hne]
    rw [show mi_ix ((3 * nI i) + 0) 30 = some (3 * i + 0) from p3_ix (w := 0) (by omega) (by decide)]
    simp only [Option.bind_some, kB]
    rw [show ∀ x (u : pV), fM_putNode (nI i) 0 x (mi_pv M 30 0 u) = _ from fun x u => cM_putNode (mi_pv_at _ _ _ _) (w := 0) (by omega) (by decide) x]
    simp only [Option.bind_some, mi_pv_pv]
    rw [fM_look_L128_eq, if_neg (by decide)]
    simp only [mi_ix_n (by omega : i < 6) (by decide), Option.bind_some, Nat.zero_add, kA, hAB.1]
    rw [if_neg hne]
    rw [show mi_ix ((3 * nI i) + (0 + 1)) 30 = some (3 * i + 1) from p3_ix (w := 1) (by omega) (by decide)]
    simp only [Option.bind_some, kB]
    rw [show ∀ x (u : pV), fM_putNode (nI i) (0 + 1) x (mi_pv M 30 0 u) = _ from fun x u => cM_putNode (mi_pv_at _ _ _ _) (w := 1) (by omega) (by decide) x]
    simp only [Option.bind_some, mi_pv_pv]
    rw [fM_look_L128_eq, if_neg (by decide)]
    simp only [mi_ix_n (by omega : i < 6) (by decide), Option.bind_some, Nat.zero_add, kA, hAB.1]
    rw [if_neg hne]
    rw [show mi_ix ((3 * nI i) + (0 + 1 + 1)) 30 = some (3 * i + 2) from p3_ix (w := 2) (by omega) (by decide)]
    simp only [Option.bind_some, kB]
    rw [show ∀ x (u : pV), fM_putNode (nI i) (0 + 1 + 1) x (mi_pv M 30 0 u) = _ from fun x u => cM_putNode (mi_pv_at _ _ _ _) (w := 2) (by omega) (by decide) x]
    simp only [Option.bind_some, mi_pv_pv]
    rw [fM_look_L128_eq, if_pos (by decide)]
    refine fin _ ?_ ?_ ?_ ?_
    · rw [upd_ne (by omega), upd_ne (by omega), upd_same, lw 0 (by decide)]
    · rw [upd_ne (by omega), upd_same, lw 1 (by decide)]
    · rw [upd_same, lw 2 (by decide)]
    · intro p a b c d
      rw [upd_ne c, upd_ne b, upd_ne a, upd_ne d, upd_ne c, upd_ne b, upd_ne a]
theorem cM_look_L (wf : pv_wf n m T v) {A B : pV} (hAB : ∀ a, a < n → pv_AB m v A B a) : ∀ (c i : Nat) (M : mM), M.1 30 0 = pv_lkp n m v (4 * i) → M.1 34 0 = A → M.1 35 0 = B → i + c = n → fM_look_L79 (pv_b (pv_chp m v (4 * i))) (nI i) M = some (pv_b (pv_chp m v (4 * n)), mi_pv M 30 0 (pv_lkp n m v (4 * n))) := by
  have hn := wf.2.2.1
  intro c
  induction c with
  | zero =>
    intro i M hv hA hB hi
    have e : i = n := by omega
    subst e
    rw [fM_look_L79_eq]
    simp only [ix_4_154, Option.bind_some, Nat.zero_add, hv, pv_lkp_lo (n := i) (m := m) (c := 4 * i) (v := v) (show 4 < 6 by decide), wf.1]
    rw [if_pos (nI_le (by omega) (by omega)), if_pos (pv_b01 _), ← hv, mi_pv_self]
  | succ c ih =>
    intro i M hv hA hB hi
    rw [cM_look_row wf (by omega) (hAB i (by omega)) hv hA hB, ih (i + 1) _ (mi_pv_at _ _ _ _) (by rw [mi_pv_net (by decide)]; exact hA) (by rw [mi_pv_net (by decide)]; exact hB) (by omega), mi_pv_pv]
theorem cM_look (wf : pv_wf n m T v) {M : mM} (hv : M.1 30 0 = v) : ∃ A B : pV, fM_look M = some (pv_b (pv_chp m v (4 * n)), mi_pv (mi_pv (mi_pv M 34 0 A) 35 0 B) 30 0 (pv_lkp n m v (4 * n))) := by
  obtain ⟨A, B, h1, h2⟩ := cM_takens wf n 0 M hv (by omega) (fun a h => by omega)
  refine ⟨A, B, ?_⟩
  rw [fM_look_eq, show (0 : Int32) = nI 0 from rfl, h2]
  exact cM_look_L wf h1 n 0 _ (by rw [mi_pv_net (by decide), mi_pv_net (by decide), hv, pv_lkp_0]) (by rw [mi_pv_net (by decide), mi_pv_at]) (mi_pv_at _ _ _ _) (by omega)
end PM
