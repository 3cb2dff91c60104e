/-! PURE: the orders carried out; does agrees -/
def pv_opv (v : pV) (L a b c : Int32) : Int32 × pV := pv_op (v 4).toNatClampNeg (v 5).toNatClampNeg v L a b c
theorem pv_opv_eq {n m T : Nat} {v : pV} (wf : pv_wf n m T v) (L a b c : Int32) : pv_opv v L a b c = pv_op n m v L a b c := by
  have hn := wf.2.2.1
  have hm := wf.2.2.2.1
  unfold pv_opv
  rw [wf.1, wf.2.1, nI_clp n (by omega), nI_clp m (by omega)]
def pv_runs (o : Nat → Nat → Int32) : Nat → Nat → pV → Int32 × pV
  | 0, i, v => (nI i, v)
  | c + 1, i, v => if 0 ≤ (pv_opv v (o i 0) (o i 1) (o i 2) (o i 3)).1 then pv_runs o c (i + 1) (pv_opv v (o i 0) (o i 1) (o i 2) (o i 3)).2 else (-2000 - nI i, v)
theorem pv_runs_S (o : Nat → Nat → Int32) (c i : Nat) (v : pV) : pv_runs o (c + 1) i v = if 0 ≤ (pv_opv v (o i 0) (o i 1) (o i 2) (o i 3)).1 then pv_runs o c (i + 1) (pv_opv v (o i 0) (o i 1) (o i 2) (o i 3)).2 else (-2000 - nI i, v) := rfl
theorem k_2000 : (-2000 : Int32).toInt = -2000 := by decide
theorem neg_2000 {i : Nat} (hi : i ≤ 40) : ¬ 0 ≤ (-2000 - nI i).toInt := by
  rw [i_sub (by rw [k_2000, i_nI (by omega)]; omega) (by rw [k_2000, i_nI (by omega)]; omega), k_2000, i_nI (by omega)]
  omega
theorem runs_cg {o o' : Nat → Nat → Int32} : ∀ (c i T n m : Nat) (u w : pV), i + c ≤ 40 → pv_wf n m T u → pv_eq n m u w → T + 2000 * c < 2000000000 → (∀ a, i ≤ a → a < i + c → ∀ n m v, pv_op n m v (o a 0) (o a 1) (o a 2) (o a 3) = pv_op n m v (o' a 0) (o' a 1) (o' a 2) (o' a 3)) → (pv_runs o c i u).1 = (pv_runs o' c i w).1 ∧ (0 ≤ (pv_runs o c i u).1.toInt → ∃ n' m', pv_wf n' m' (T + 2000 * c) (pv_runs o c i u).2 ∧ pv_eq n' m' (pv_runs o c i u).2 (pv_runs o' c i w).2) := by
  intro c
  induction c with
  | zero => intro i T n m u w hi wf he hT ho; exact ⟨rfl, fun _ => ⟨n, m, wf, he⟩⟩
  | succ c ih =>
    intro i T n m u w hi wf he hT ho
    rw [Nat.mul_succ] at hT
    have hT2 : T + 2000 < 2000000000 := Nat.lt_of_le_of_lt (Nat.add_le_add_left (Nat.le_add_left 2000 (2000 * c)) T) hT
    rw [pv_runs_S, pv_runs_S, pv_opv_eq wf, pv_opv_eq (he.wf wf), ← ho i (by omega) (by omega)]
    obtain ⟨g1, g2⟩ := gd_op wf he hT2 (o i 0) (o i 1) (o i 2) (o i 3)
    rw [← g1]
    rcases g2 with ⟨hb, -, -⟩ | ⟨hp, n', m', w1, w2⟩
    · have hneg : ¬ (0 : Int32) ≤ (pv_op n m u (o i 0) (o i 1) (o i 2) (o i 3)).1 := by rcases hb with q | q <;> rw [q] <;> decide
      rw [if_neg hneg, if_neg hneg]
      exact ⟨rfl, fun z => absurd z (neg_2000 (by omega))⟩
    · have hpos : (0 : Int32) ≤ (pv_op n m u (o i 0) (o i 1) (o i 2) (o i 3)).1 := by rw [i_le, k_0]; exact hp
      rw [if_pos hpos, if_pos hpos]
      have := ih (i + 1) (T + 2000) n' m' _ _ (by omega) w1 w2 (by omega) (fun a h1 h2 => ho a (by omega) (by omega))
      rw [show T + 2000 * (c + 1) = T + 2000 + 2000 * c by rw [Nat.mul_succ]; omega]
      exact this
theorem op_107 (n m : Nat) (v : pV) (a b c : Int32) : pv_op n m v 107 a b c = pv_looks n m v a := by
  unfold pv_op
  rw [if_neg (by decide), if_neg (by decide), if_neg (by decide), if_neg (by decide), if_neg (by decide), if_neg (by decide), if_pos rfl]
theorem op_108 (n m : Nat) (v : pV) (a b c : Int32) : pv_op n m v 108 a b c = pv_link n m v a b c := by
  unfold pv_op
  rw [if_neg (by decide), if_pos rfl]
theorem op_110 (n m : Nat) (v : pV) (a b c : Int32) : pv_op n m v 110 a b c = pv_node n v a b := by
  unfold pv_op
  rw [if_pos rfl]
theorem op_111 (n m : Nat) (v : pV) (a b c : Int32) : pv_op n m v 111 a b c = pv_owns n v a b c := by
  unfold pv_op
  rw [if_neg (by decide), if_neg (by decide), if_pos rfl]
theorem op_115 (n m : Nat) (v : pV) (a b c : Int32) : pv_op n m v 115 a b c = pv_sets m v a b := by
  unfold pv_op
  rw [if_neg (by decide), if_neg (by decide), if_neg (by decide), if_neg (by decide), if_pos rfl]
theorem op_116 (n m : Nat) (v : pV) (a b c : Int32) : pv_op n m v 116 a b c = pv_ticks n m v a := by
  unfold pv_op
  rw [if_neg (by decide), if_neg (by decide), if_neg (by decide), if_neg (by decide), if_neg (by decide), if_neg (by decide), if_neg (by decide)]
theorem op_117 (n m : Nat) (v : pV) (a b c : Int32) : pv_op n m v 117 a b c = pv_turn m v a := by
  unfold pv_op
  rw [if_neg (by decide), if_neg (by decide), if_neg (by decide), if_pos rfl]
theorem op_arg {L : Int32} (h : ¬ pp_N L = 0) {a b c a' b' c' : Int32} (h1 : 1 ≤ pp_N L → a = a') (h2 : 2 ≤ pp_N L → b = b') (h3 : 3 ≤ pp_N L → c = c') (n m : Nat) (v : pV) : pv_op n m v L a b c = pv_op n m v L a' b' c' := by
  have e1 := h1 (by omega)
  subst e1
  rcases pp_N_let h with rfl | rfl | rfl | rfl | rfl | rfl | rfl
  · rw [op_107, op_107]
  · rw [h2 (by decide), h3 (by decide)]
  · rw [op_110, op_110, h2 (by decide)]
  · rw [h2 (by decide), h3 (by decide)]
  · rw [op_115, op_115, h2 (by decide)]
  · rw [op_116, op_116]
  · rw [op_117, op_117]
theorem let_of {L : Int32} (h : ¬ pp_N L = 0) : pv_let L := by
  unfold pv_let
  rcases pp_N_let h with rfl | rfl | rfl | rfl | rfl | rfl | rfl <;> decide
-- the class
theorem X_runs {R v tx : pV} {st : Nat → pV} {rf : Nat → Int32} {d t K : Nat} (hd : d ≤ 5) (hK : K ≤ 40) (hL : ∀ a, a < K → pv_let (R (4 * a))) : ∀ (c i T n m : Nat) (u : pV) (M : mM), i + c = K → M.1 6 0 2 = nI K → M.1 5 0 = R → Cst M d v st rf tx t → M.1 0 (M.2.1 1) = u → pv_wf n m T u → T + 2000 * c < 2000000000 → ∃ M', frC M M' ∧ fX_does_L34 (nI i) M = some ((pv_runs (fun a b => R (4 * a + b)) c i u).1, M') ∧ (0 ≤ (pv_runs (fun a b => R (4 * a + b)) c i u).1.toInt → Cst M' (st_dn d) (pv_runs (fun a b => R (4 * a + b)) c i u).2 (st_push d v st) rf tx t) ∧ (¬ 0 ≤ (pv_runs (fun a b => R (4 * a + b)) c i u).1.toInt → Cst M' d v st rf tx t) := by
  intro c
  induction c with
  | zero =>
    intro i T n m u M hi h6 h5 hC hu wf hT
    obtain ⟨M', f1, f2, f3, -, f4⟩ := X_keep hd hC
    refine ⟨M', f1, ?_, fun _ => by rw [hu] at f3; exact f3, fun z => absurd (show 0 ≤ (nI i).toInt by rw [i_nI (by omega)]; omega) z⟩
    rw [fX_does_L34_eq, h6, if_pos (nI_le (by omega) (by omega)), f2, Option.bind_some, f4, h6, show K = i by omega]
    rfl
  | succ c ih =>
    intro i T n m u M hi h6 h5 hC hu wf hT
    rw [Nat.mul_succ] at hT
    have hT2 : T + 2000 < 2000000000 := Nat.lt_of_le_of_lt (Nat.add_le_add_left (Nat.le_add_left 2000 (2000 * c)) T) hT
    have he : fX_does_L34 (nI i) M = (fN_carryOut (M.2.1 1) (R (4 * i + 0)) (R (4 * i + 1)) (R (4 * i + 2)) (R (4 * i + 3)) M).bind fun q7 => (if 0 ≤ q7.1 then fX_does_L34 (nI i + 1) q7.2 else some (-2000 - nI i, q7.2)) := by
      rw [fX_does_L34_eq, h6, if_neg (nI_ge (by omega) (by omega)), mi_ix_n (by omega : i < 40) (by decide), Option.bind_some, ix_0_4, Option.bind_some, ix_1_4, Option.bind_some, ix_2_4, Option.bind_some, ix_3_4, Option.bind_some, h5]
    obtain ⟨K', F, e⟩ := cN_carryOut (M := M) (j := M.2.1 1) hu wf hT2 (hL i (by omega)) (R (4 * i + 1)) (R (4 * i + 2)) (R (4 * i + 3))
    have hC2 : Cst (mi_pv (mi_pv (mi_pv M 2 (M.2.1 1) K') 1 (M.2.1 1) F) 0 (M.2.1 1) (pv_op n m u (R (4 * i)) (R (4 * i + 1)) (R (4 * i + 2)) (R (4 * i + 3))).2) d v st rf tx t := Cst.tr1 hd hC K' F _
    have fr1 : frC M (mi_pv (mi_pv (mi_pv M 2 (M.2.1 1) K') 1 (M.2.1 1) F) 0 (M.2.1 1) (pv_op n m u (R (4 * i)) (R (4 * i + 1)) (R (4 * i + 2)) (R (4 * i + 3))).2) := frC.tr1
    rw [he, show 4 * i + 0 = 4 * i from rfl, e, Option.bind_some, pv_runs_S, pv_opv_eq wf]
    simp only
    rw [show 4 * i + 0 = 4 * i from rfl]
    obtain ⟨-, g2⟩ := gd_op wf (pv_eq.rf (n := n) (m := m) (v := u)) hT2 (R (4 * i)) (R (4 * i + 1)) (R (4 * i + 2)) (R (4 * i + 3))
    rcases g2 with ⟨hb, -, -⟩ | ⟨hp, n', m', w1, w2⟩
    · have hneg : ¬ (0 : Int32) ≤ (pv_op n m u (R (4 * i)) (R (4 * i + 1)) (R (4 * i + 2)) (R (4 * i + 3))).1 := by rcases hb with q | q <;> rw [q] <;> decide
      rw [if_neg hneg, if_neg hneg]
      exact ⟨_, fr1, rfl, fun z => absurd z (neg_2000 (by omega)), fun _ => hC2⟩
    · have hpos : (0 : Int32) ≤ (pv_op n m u (R (4 * i)) (R (4 * i + 1)) (R (4 * i + 2)) (R (4 * i + 3))).1 := by rw [i_le, k_0]; exact hp
      rw [if_pos hpos, if_pos hpos, nI_1]
      obtain ⟨M', f1, f2, f3, f4⟩ := ih (i + 1) (T + 2000) n' m' _ (mi_pv (mi_pv (mi_pv M 2 (M.2.1 1) K') 1 (M.2.1 1) F) 0 (M.2.1 1) (pv_op n m u (R (4 * i)) (R (4 * i + 1)) (R (4 * i + 2)) (R (4 * i + 3))).2) (by omega) (by rw [mi_pv_net (by decide), mi_pv_net (by decide), mi_pv_net (by decide)]; exact h6) (by rw [mi_pv_net (by decide), mi_pv_net (by decide), mi_pv_net (by decide)]; exact h5) hC2 (mi_pv_at _ _ _ _) w1 (by omega)
      exact ⟨M', fr1.tr f1, f2, f3, f4⟩
-- the reference
theorem cM_doOrder {M : mM} {A B : pV} (hA : M.1 39 0 = A) (hB : M.1 40 0 = B) {k : Nat} (hk : k < 40) (h : ¬ pp_N (A k) = 0) : fM_doOrder (nI k) M = fM_op (A k) (B (3 * k)) (B (3 * k + 1)) (B (3 * k + 2)) M := by
  have i0 : mi_ix (3 * nI k) 120 = some (3 * k) := by
    rw [show (3 : Int32) = nI 3 from rfl, pk_mul]
    exact mi_ix_n (by omega) (by decide)
  rw [fM_doOrder_eq, i0, Option.bind_some, show mi_ix ((3 * nI k) + 1) 120 = some (3 * k + 1) from ix_3k (a := 1) hk (by decide), Option.bind_some, show mi_ix ((3 * nI k) + 2) 120 = some (3 * k + 2) from ix_3k (a := 2) hk (by decide), Option.bind_some, mi_ix_n hk (by decide), Option.bind_some, hA, hB, Nat.zero_add, Nat.zero_add, Nat.zero_add, Nat.zero_add]
  rcases pp_N_let h with e | e | e | e | e | e | e
  · rw [e, if_pos rfl, bind_id]; rfl
  · rw [e, if_neg (by decide), if_pos rfl, bind_id]; rfl
  · rw [e, if_neg (by decide), if_neg (by decide), if_neg (by decide), if_pos rfl, bind_id]; rfl
  · rw [e, if_neg (by decide), if_neg (by decide), if_neg (by decide), if_neg (by decide), if_pos rfl, bind_id]; rfl
  · rw [e, if_neg (by decide), if_neg (by decide), if_neg (by decide), if_neg (by decide), if_neg (by decide), if_neg (by decide), if_neg (by decide), if_neg (by decide), if_pos rfl, bind_id]; rfl
  · rw [e, if_neg (by decide), if_neg (by decide), if_neg (by decide), if_neg (by decide), if_neg (by decide), if_neg (by decide), if_neg (by decide), if_neg (by decide), if_neg (by decide), if_pos rfl, bind_id]; rfl
  · rw [e, if_neg (by decide), if_neg (by decide), if_neg (by decide), if_neg (by decide), if_neg (by decide), if_neg (by decide), if_neg (by decide), if_neg (by decide), if_neg (by decide), if_neg (by decide), if_pos rfl, bind_id]; rfl
theorem cM_104 {M : mM} {x : Int32} : ∃ h : pV, (∀ p, p < 154 → h p = M.1 31 0 p) ∧ fM_does_L104 x 0 M = some (-2000 - x, mi_pv M 30 0 h) := by
  have L : ∀ (c i : Nat) (M : mM), i + c = 154 → (∀ p, p < i → M.1 30 0 p = M.1 31 0 p) → ∃ h : pV, (∀ p, p < 154 → h p = M.1 31 0 p) ∧ fM_does_L104 x (nI i) M = some (-2000 - x, mi_pv M 30 0 h) := by
    intro c
    induction c with
    | zero =>
      intro i M hi hp
      refine ⟨M.1 30 0, fun p h => hp p (by omega), ?_⟩
      rw [fM_does_L104_eq, if_pos (show (154 : Int32) ≤ nI i from lit_le (k := 154) (by omega) (by omega)), mi_pv_self]
    | succ c ih =>
      intro i M hi hp
      rw [fM_does_L104_eq, if_neg (show ¬ (154 : Int32) ≤ nI i from nI_ge (b := 154) (by omega) (by decide)), mi_ix_n (by omega : i < 154) (by decide)]
      simp only [Option.bind_some, Nat.zero_add, mi_set_pv, nI_1]
      obtain ⟨h, h1, h2⟩ := ih (i + 1) (mi_pv M 30 0 (upd (M.1 30 0) i (M.1 31 0 i))) (by omega) (fun p hp' => by
        rw [mi_pv_at, mi_pv_net (by decide)]
        by_cases e : p = i
        · rw [e, upd_same]
        · rw [upd_ne e]; exact hp p (by omega))
      exact ⟨h, fun p hp' => by rw [h1 p hp', mi_pv_net (by decide)], by rw [h2, mi_pv_pv]⟩
  exact L 154 0 M (by omega) (fun p h => by omega)
def om (A B : pV) : Nat → Nat → Int32 := fun a b => if b = 0 then A a else B (3 * a + (b - 1))
theorem M_runs {A B w0 tx : pV} {st : Nat → pV} {rf : Nat → Int32} {d t K : Nat} (hd : d ≤ 5) (hK : K ≤ 40) (hL : ∀ a, a < K → ¬ pp_N (A a) = 0) : ∀ (c i T n m : Nat) (w : pV) (M : mM), i + c = K → M.1 41 0 6 = nI K → M.1 39 0 = A → M.1 40 0 = B → Mst M d w st rf tx t → (∀ p, p < 154 → M.1 31 0 p = w0 p) → pv_wf n m T w → T + 2000 * c < 2000000000 → ∃ M', frM M M' ∧ fM_does_L86 (nI i) M = some ((pv_runs (om A B) c i w).1, M') ∧ (0 ≤ (pv_runs (om A B) c i w).1.toInt → Mst M' (st_dn d) (pv_runs (om A B) c i w).2 (st_push d w0 st) rf tx t) ∧ (¬ 0 ≤ (pv_runs (om A B) c i w).1.toInt → ∃ w', (∀ p, p < 154 → w' p = w0 p) ∧ Mst M' d w' st rf tx t) := by
  intro c
  induction c with
  | zero =>
    intro i T n m w M hi h6 hA hB hM h31 wf hT
    obtain ⟨M', f1, f2, f3, f4⟩ := M_push hd hM h31
    refine ⟨M', f1, ?_, fun _ => f3, fun z => absurd (show 0 ≤ (nI i).toInt by rw [i_nI (by omega)]; omega) z⟩
    rw [fM_does_L86_eq, h6, if_pos (nI_le (by omega) (by omega)), f2, Option.bind_some, f4 6 (by decide), h6, show K = i by omega]
    rfl
  | succ c ih =>
    intro i T n m w M hi h6 hA hB hM h31 wf hT
    rw [Nat.mul_succ] at hT
    have hT2 : T + 2000 < 2000000000 := Nat.lt_of_le_of_lt (Nat.add_le_add_left (Nat.le_add_left 2000 (2000 * c)) T) hT
    have hv : M.1 30 0 = w := hM.2.1
    obtain ⟨X, Y, e⟩ := cM_op (M := M) hv wf hT2 (A i) (B (3 * i)) (B (3 * i + 1)) (B (3 * i + 2))
    have hS := Mst.tr1 hM (M.1 31 0) X Y (pv_op n m w (A i) (B (3 * i)) (B (3 * i + 1)) (B (3 * i + 2))).2
    rw [mi_pv_self] at hS
    have hf : frM M (mi_pv (mi_pv (mi_pv M 34 0 X) 35 0 Y) 30 0 (pv_op n m w (A i) (B (3 * i)) (B (3 * i + 1)) (B (3 * i + 2))).2) := ((frM.pv (by decide) (by decide)).tr (frM.pv (by decide) (by decide))).tr (frM.pv (by decide) (by decide))
    have other : ∀ t', t' ≠ 30 → t' ≠ 34 → t' ≠ 35 → (mi_pv (mi_pv (mi_pv M 34 0 X) 35 0 Y) 30 0 (pv_op n m w (A i) (B (3 * i)) (B (3 * i + 1)) (B (3 * i + 2))).2).1 t' = M.1 t' := fun t' a b c => by rw [mi_pv_t a, mi_pv_t c, mi_pv_t b]
    rw [fM_does_L86_eq, h6, if_neg (nI_ge (by omega) (by omega)), cM_doOrder hA hB (by omega) (hL i (by omega)), e, Option.bind_some, pv_runs_S, pv_opv_eq wf]
    simp only
    rw [show om A B i 0 = A i from rfl, show om A B i 1 = B (3 * i) from rfl, show om A B i 2 = B (3 * i + 1) from rfl, show om A B i 3 = B (3 * i + 2) from rfl]
    obtain ⟨-, g2⟩ := gd_op wf (pv_eq.rf (n := n) (m := m) (v := w)) hT2 (A i) (B (3 * i)) (B (3 * i + 1)) (B (3 * i + 2))
    rcases g2 with ⟨hb, -, -⟩ | ⟨hp, n', m', w1, w2⟩
    · have hneg : ¬ (0 : Int32) ≤ (pv_op n m w (A i) (B (3 * i)) (B (3 * i + 1)) (B (3 * i + 2))).1 := by rcases hb with q | q <;> rw [q] <;> decide
      rw [if_neg hneg, if_neg hneg]
      obtain ⟨u, u1, u2⟩ := cM_104 (M := mi_pv (mi_pv (mi_pv M 34 0 X) 35 0 Y) 30 0 (pv_op n m w (A i) (B (3 * i)) (B (3 * i + 1)) (B (3 * i + 2))).2) (x := nI i)
      refine ⟨_, hf.tr (frM.pv (by decide) (by decide)), u2, fun z => absurd z (neg_2000 (by omega)), fun _ => ⟨u, fun p hp => by rw [u1 p hp, other 31 (by decide) (by decide) (by decide), h31 p hp], ?_⟩⟩
      rw [mi_pv_pv]
      have := Mst.tr1 hM (M.1 31 0) X Y u
      rw [mi_pv_self] at this
      exact this
    · have hpos : (0 : Int32) ≤ (pv_op n m w (A i) (B (3 * i)) (B (3 * i + 1)) (B (3 * i + 2))).1 := by rw [i_le, k_0]; exact hp
      rw [if_pos hpos, if_pos hpos, nI_1]
      obtain ⟨M', f1, f2, f3, f4⟩ := ih (i + 1) (T + 2000) n' m' _ (mi_pv (mi_pv (mi_pv M 34 0 X) 35 0 Y) 30 0 (pv_op n m w (A i) (B (3 * i)) (B (3 * i + 1)) (B (3 * i + 2))).2) (by omega) (by rw [other 41 (by decide) (by decide) (by decide)]; exact h6) (by rw [other 39 (by decide) (by decide) (by decide)]; exact hA) (by rw [other 40 (by decide) (by decide) (by decide)]; exact hB) hS (fun p hp => by rw [other 31 (by decide) (by decide) (by decide)]; exact h31 p hp) w1 (by omega)
      exact ⟨M', hf.tr f1, f2, f3, f4⟩
theorem Cst.cst {M : mM} {d t : Nat} {v tx : pV} {st : Nat → pV} {rf : Nat → Int32} (h : Cst M d v st rf tx t) (R : pV) (p k : Nat) : Cst (cs M R p k) d v st rf tx t := by
  obtain ⟨x1, x2, x3, x4, x5, x6, x7⟩ := h
  have other : ∀ t', t' ≠ 5 → t' ≠ 6 → (cs M R p k).1 t' = M.1 t' := fun t' a b => by unfold cs; rw [mi_pv_t b, mi_pv_t a]
  refine ⟨x1, by rw [other 3 (by decide) (by decide)]; exact x2, by rw [other 0 (by decide) (by decide)]; exact x3, fun k hk => by rw [other 0 (by decide) (by decide)]; exact x4 k hk, fun i hi => by rw [other 3 (by decide) (by decide)]; exact x5 i hi, by rw [cs_0]; exact x6, by rw [other 4 (by decide) (by decide)]; exact x7⟩
theorem frC.cst {M : mM} {R : pV} {p k : Nat} : frC M (cs M R p k) := (frC.pv (by decide)).tr (frC.pv (by decide))
theorem Mst.mst {M : mM} {d t : Nat} {v tx : pV} {st : Nat → pV} {rf : Nat → Int32} (h : Mst M d v st rf tx t) (A B : pV) (p : Nat) (f : Int32) (k : Nat) : Mst (ms M A B p f k) d v st rf tx t := by
  obtain ⟨x1, x2, x3, x4, x5, x6⟩ := h
  have other : ∀ t', t' ≠ 39 → t' ≠ 40 → t' ≠ 41 → (ms M A B p f k).1 t' = M.1 t' := fun t' a b c => by unfold ms; rw [mi_pv_t c, mi_pv_t b, mi_pv_t a]
  refine ⟨by rw [ms_41, upd_ne (by decide), upd_ne (by decide), upd_ne (by decide)]; exact x1, by rw [other 30 (by decide) (by decide) (by decide)]; exact x2, fun k hk p hp => by rw [other 32 (by decide) (by decide) (by decide)]; exact x3 k hk p hp, fun i hi => by rw [other 33 (by decide) (by decide) (by decide)]; exact x4 i hi, by rw [ms_3]; exact x5, by rw [other 38 (by decide) (by decide) (by decide)]; exact x6⟩
theorem frM.mst {M : mM} {A B : pV} {p : Nat} {f : Int32} {k : Nat} : frM M (ms M A B p f k) := ((frM.pv (by decide) (by decide)).tr (frM.pv (by decide) (by decide))).tr (frM.pv (by decide) (by decide))
theorem Mst.hd {M : mM} {d t : Nat} {v tx : pV} {st : Nat → pV} {rf : Nat → Int32} (h : Mst M d v st rf tx t) (H : pV) : Mst (mi_pv M 31 0 H) d v st rf tx t := by
  obtain ⟨x1, x2, x3, x4, x5, x6⟩ := h
  have other : ∀ t', t' ≠ 31 → (mi_pv M 31 0 H).1 t' = M.1 t' := fun t' a => mi_pv_t a
  refine ⟨by rw [other 41 (by decide)]; exact x1, by rw [other 30 (by decide)]; exact x2, fun k hk p hp => by rw [other 32 (by decide)]; exact x3 k hk p hp, fun i hi => by rw [other 33 (by decide)]; exact x4 i hi, by rw [other 41 (by decide)]; exact x5, by rw [other 38 (by decide)]; exact x6⟩
theorem pp_a_le {tx : pV} {t : Nat} : ∀ (c p : Nat), p ≤ t → (pp_a tx t c p).2.1 ≤ t := by
  intro c
  induction c with
  | zero => intro p hp; exact hp
  | succ c ih =>
    intro p hp
    rw [pp_a_S]
    obtain ⟨o1, o2, -⟩ := pp_o_ge (tx := tx) hp
    split
    · split
      · exact ih _ (pp_s_le o2)
      · exact o2
    · exact hp
theorem ok_does : Okc fX_does fM_does := by
  intro T M hT ⟨d, t, n, m, v, w, sv, sw, rf, tx, ty, h⟩
  obtain ⟨h1, h2, h3, h4, h5, h6, h7, h8⟩ := id h
  have hCt : Ct M tx t := ⟨h2, h3.2.2.2.2.2.1, fun k hk => by rw [h3.2.2.2.2.2.2]⟩
  have hMt : ∀ M1, frC M M1 → Mt M1 tx t := fun M1 f => by
    have q := h4.fr f
    exact ⟨h2, q.2.2.2.2.1, fun k hk => by rw [q.2.2.2.2.2]; exact ⟨(h8 k hk).1.symm, (h8 k hk).2⟩⟩
  by_cases hs : pp_s tx t 0 < t
  · obtain ⟨R, r1, r2⟩ := cS_read hCt hs
    obtain ⟨len, ok⟩ := pp_a_ok (tx := tx) (t := t) 40 (pp_s tx t 0) (by omega)
    have ple := pp_a_le (tx := tx) (t := t) 40 (pp_s tx t 0) (by omega)
    generalize hr : pp_a tx t 40 (pp_s tx t 0) = r at r1 r2 len ok ple
    by_cases hr1 : r.1 = true
    · have hC1 : Cst (cs M R r.2.1 r.2.2.length) d v sv rf tx t := h3.cst R _ _
      obtain ⟨u, u1, u2, u3⟩ := X_copy h1 hC1 h5
      have h2000 : T + 2000 * r.2.2.length < 2000000000 := by omega
      have v1 := r1 hr1
      obtain ⟨M1, a1, a2, a3, a4⟩ := X_runs (R := R) (K := r.2.2.length) h1 len (fun a ha => by
        obtain ⟨L, ns, e1, e2, e3⟩ := ok a ha
        have := v1 a ha 0 (by rw [e1]; exact Nat.succ_pos _)
        rw [Nat.add_zero] at this
        rw [this, e1]
        exact let_of e3) r.2.2.length 0 T n m u (mi_pv (cs M R r.2.1 r.2.2.length) 0 ((cs M R r.2.1 r.2.2.length).2.1 1) u) (by omega) (by rw [mi_pv_net (by decide), cs_2]) (by rw [mi_pv_net (by decide), cs_5]) u3 (mi_pv_at _ _ _ _) (u1.wf h5) h2000
      have f1 : frC M M1 := (frC.cst.tr (frC.pv (by decide))).tr a1
      obtain ⟨A, B, k', b1, b2⟩ := cM_read (hMt M1 f1) hs
      rw [hr] at b1 b2
      obtain ⟨b3, b4⟩ := b1 hr1
      have eft : pp_ft r.1 r.2.1 = -1001 := by unfold pp_ft; rw [if_pos hr1]
      rw [eft, b3] at b2
      have hM1 : Mst (ms M1 A B r.2.1 (-1001) r.2.2.length) d w sw rf ty t := (h4.fr f1).mst A B _ _ _
      obtain ⟨H, hH, e1⟩ := cM_hold (M := ms M1 A B r.2.1 (-1001) r.2.2.length)
      obtain ⟨M2, c1, c2, c3, c4⟩ := M_runs (A := A) (B := B) (w0 := w) (K := r.2.2.length) h1 len (fun a ha => by
        obtain ⟨L, ns, e1, e2, e3⟩ := ok a ha
        rw [(b4 a ha).1, e1]
        exact e3) r.2.2.length 0 T n m w (mi_pv (ms M1 A B r.2.1 (-1001) r.2.2.length) 31 0 H) (by omega) (by rw [mi_pv_net (by decide), ms_6]) (by rw [mi_pv_net (by decide), ms_39]) (by rw [mi_pv_net (by decide), ms_40]) (hM1.hd H) (fun p hp => by rw [mi_pv_at, hH p hp, hM1.2.1]) (h6.wf h5) h2000
      obtain ⟨g1, g2⟩ := runs_cg (o := fun a b => R (4 * a + b)) (o' := om A B) r.2.2.length 0 T n m u w (by omega) (u1.wf h5) (u1.sy.tr h6) h2000 (fun a _ ha n m v => by
        rw [Nat.zero_add] at ha
        obtain ⟨L, ns, e1, e2, e3⟩ := ok a ha
        have x := v1 a ha
        have y := b4 a ha
        rw [e1] at x y
        have l0 : R (4 * a + 0) = L := x 0 (Nat.succ_pos _)
        have m0 : om A B a 0 = L := y.1
        rw [l0, m0]
        exact op_arg e3 (fun q => (x 1 (by simp; omega)).trans (y.2 0 (by simp; omega)).symm) (fun q => (x 2 (by simp; omega)).trans (y.2 1 (by simp; omega)).symm) (fun q => (x 3 (by simp; omega)).trans (y.2 2 (by simp; omega)).symm) n m v)
      have f2 : frM M1 M2 := (frM.mst.tr (frM.pv (by decide) (by decide))).tr c1
      refine ⟨(pv_runs (fun a b => R (4 * a + b)) r.2.2.length 0 u).1, M1, M2, ?_, ?_, ?_, f1, f2⟩
      · rw [fX_does_eq, r2, Option.bind_some]
        simp only
        rw [pv_bt hr1, if_pos (by decide), u2, Option.bind_some]
        exact a2
      · rw [b2, fM_does_L62_eq, ms_5, if_pos rfl, e1, Option.bind_some, g1]
        exact c2
      · by_cases hp : 0 ≤ (pv_runs (fun a b => R (4 * a + b)) r.2.2.length 0 u).1.toInt
        · obtain ⟨n', m', w1, w2⟩ := g2 hp
          exact ⟨_, t, n', m', _, _, _, _, rf, tx, ty, st_dn_le, h2, (a3 hp).fr f2, c3 (by rw [← g1]; exact hp), pv_wf_T (by omega) w1, w2, stu_ok (T := T) (by omega) (stp_ok h1 h5 h6 h7), h8⟩
        · obtain ⟨w', z1, z2⟩ := c4 (by rw [← g1]; exact hp)
          exact h.get (a4 hp) f2 z2 z1
    · have f1 : frC M (cs M R r.2.1 r.2.2.length) := frC.cst
      obtain ⟨A, B, k', -, b2⟩ := cM_read (hMt _ f1) hs
      rw [hr] at b2
      have eft : pp_ft r.1 r.2.1 = nI r.2.1 := by unfold pp_ft; rw [if_neg hr1]
      have hle : r.2.1 < 2147483648 := by omega
      rw [eft] at b2
      refine ⟨-10 - nI r.2.1, _, _, ?_, ?_, h.get (h3.cst R _ _) (frM.mst (A := A) (B := B) (p := r.2.1) (f := nI r.2.1) (k := k')) ((h4.fr f1).mst A B _ _ _) (fun _ _ => rfl), f1, frM.mst⟩
      · rw [fX_does_eq, r2, Option.bind_some]
        simp only
        rw [pv_bf hr1, if_neg (by decide), cs_1]
      · rw [b2, fM_does_L62_eq, ms_5, if_neg (nI_nNONE _ hle)]
  · obtain ⟨R, r1⟩ := cS_readE hCt hs
    have f1 : frC M (cs M R t 0) := frC.cst
    have b2 := cM_readE (hMt _ f1) hs
    refine ⟨-10 - nI t, _, _, ?_, b2, h.get (h3.cst R _ _) frM.mst ((h4.fr f1).mst _ _ _ _ _) (fun _ _ => rfl), f1, frM.mst⟩
    rw [fX_does_eq, r1, Option.bind_some]
    simp only
    rw [if_neg (by decide), cs_1]
