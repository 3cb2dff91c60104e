/-! PURE: a call that changes: the model's; and both together -/
noncomputable def fM_op (L a b c : Int32) (M : mM) : Option (Int32 × mM) := if L = 110 then fM_doNode a b M else if L = 108 then fM_doLink a b c M else if L = 111 then fM_doOwns a b c M else if L = 117 then fM_doTurns a M else if L = 115 then fM_doSets a b M else if L = 99 then fM_doClears a M else if L = 107 then fM_doLooks a M else fM_doTicks a M
theorem pv3_self (M : mM) (u : pV) : mi_pv (mi_pv (mi_pv M 34 0 (M.1 34 0)) 35 0 (M.1 35 0)) 30 0 u = mi_pv M 30 0 u := by
  rw [mi_pv_self, mi_pv_self]
theorem cM_op {n m T : Nat} {v : pV} {M : mM} (hv : M.1 30 0 = v) (wf : pv_wf n m T v) (hT : T + 2000 < 2000000000) (L a b c : Int32) : ∃ A B : pV, fM_op L a b c M = some ((pv_op n m v L a b c).1, mi_pv (mi_pv (mi_pv M 34 0 A) 35 0 B) 30 0 (pv_op n m v L a b c).2) := by
  obtain ⟨h4, h5, hn, hm, -⟩ := id wf
  unfold fM_op pv_op
  by_cases e1 : L = 110
  · rw [if_pos e1, if_pos e1]; exact ⟨M.1 34 0, M.1 35 0, by rw [pv3_self]; exact cM_doNode hv h4 hn a b⟩
  rw [if_neg e1, if_neg e1]
  by_cases e2 : L = 108
  · rw [if_pos e2, if_pos e2]; exact ⟨M.1 34 0, M.1 35 0, by rw [pv3_self]; exact cM_doLink hv h4 h5 hn hm a b c⟩
  rw [if_neg e2, if_neg e2]
  by_cases e3 : L = 111
  · rw [if_pos e3, if_pos e3]; exact ⟨M.1 34 0, M.1 35 0, by rw [pv3_self]; exact cM_doOwns hv wf a b c⟩
  rw [if_neg e3, if_neg e3]
  by_cases e4 : L = 117
  · rw [if_pos e4, if_pos e4]; exact ⟨M.1 34 0, M.1 35 0, by rw [pv3_self]; exact cM_doTurns hv h5 hm a⟩
  rw [if_neg e4, if_neg e4]
  by_cases e5 : L = 115
  · rw [if_pos e5, if_pos e5]; exact ⟨M.1 34 0, M.1 35 0, by rw [pv3_self]; exact cM_doSets hv h5 hm a b⟩
  rw [if_neg e5, if_neg e5]
  by_cases e6 : L = 99
  · rw [if_pos e6, if_pos e6]; exact ⟨M.1 34 0, M.1 35 0, by rw [pv3_self]; exact cM_doClears hv h5 hm a⟩
  rw [if_neg e6, if_neg e6]
  by_cases e7 : L = 107
  · rw [if_pos e7, if_pos e7]; exact cM_doLooks hv wf a
  rw [if_neg e7, if_neg e7]
  exact ⟨M.1 34 0, M.1 35 0, by rw [pv3_self]; exact cM_doTicks hv wf hT a⟩
theorem M_refuses {M : mM} {d t : Nat} {v tx : pV} {st : Nat → pV} {rf : Nat → Int32} (h : Mst M d v st rf tx t) {a : Int32} (ha : a = -1002 ∨ a = -1003 ∨ a = -1004) : ∃ M', frM M M' ∧ fM_refuses a M = some (a, M') ∧ Mst M' d v st (rf_up rf (st_ri a)) tx t := by
  obtain ⟨x1, x2, x3, x4, x5, x6⟩ := h
  refine ⟨_, frM.pv (by decide) (by decide), cM_refuses ha, ?_, ?_, fun k hk p hp => ?_, fun i hi => ?_, ?_, ?_⟩
  · rw [mi_pv_net (by decide)]; exact x1
  · rw [mi_pv_net (by decide)]; exact x2
  · rw [mi_pv_net (by decide)]; exact x3 k hk p hp
  · rw [mi_pv_at]
    unfold rf_up
    by_cases e : i = st_ri a
    · rw [e, upd_same, if_pos rfl, x4 _ (st_ri_lt a)]
    · rw [upd_ne (by omega), if_neg e]; exact x4 i hi
  · rw [mi_pv_net (by decide)]; exact x5
  · rw [mi_pv_net (by decide)]; exact x6
theorem M_push {M : mM} {d t : Nat} {v w tx : pV} {st : Nat → pV} {rf : Nat → Int32} (hd : d ≤ 5) (h : Mst M d v st rf tx t) (hw : ∀ p, p < 154 → M.1 31 0 p = w p) : ∃ M', frM M M' ∧ fM_push M = some M' ∧ Mst M' (st_dn d) v (st_push d w st) rf tx t ∧ (∀ p, p ≠ 0 → M'.1 41 0 p = M.1 41 0 p) := by
  obtain ⟨x1, x2, x3, x4, x5, x6⟩ := h
  obtain ⟨P, p1, p2, e⟩ := cM_push hd x1
  refine ⟨_, (frM.pv (by decide) (by decide)).tr (frM.pv (by decide) (by decide)), e, ⟨?_, ?_, fun k hk p hp => ?_, fun i hi => ?_, ?_, ?_⟩, fun p hp => ?_⟩
  · rw [mi_pv_at, upd_same]; rfl
  · rw [mi_pv_net (by decide), mi_pv_net (by decide)]; exact x2
  · rw [mi_pv_net (by decide), mi_pv_at]
    unfold st_push
    unfold st_dn at hk
    by_cases h5 : d < 5
    · rw [if_pos h5] at hk ⊢
      obtain ⟨q1, q2⟩ := p1 h5
      by_cases ek : k = d
      · rw [if_pos ek, ek, q1 p hp, hw p hp]
      · rw [if_neg ek, q2 _ (by omega)]; exact x3 k (by omega) p hp
    · rw [if_neg h5] at hk ⊢
      obtain ⟨q1, q2⟩ := p2 (by omega)
      by_cases ek : k = 4
      · rw [if_pos ek, ek, show 154 * 4 + p = 616 + p from rfl, q1 p hp, hw p hp]
      · rw [if_neg ek, q2 _ (by omega), show 154 * k + p + 154 = 154 * (k + 1) + p by omega]; exact x3 (k + 1) (by omega) p hp
  · rw [mi_pv_net (by decide), mi_pv_net (by decide)]; exact x4 i hi
  · rw [mi_pv_at, upd_ne (by decide)]; exact x5
  · rw [mi_pv_net (by decide), mi_pv_net (by decide)]; exact x6
  · rw [mi_pv_at, upd_ne hp]
/-- writing the row now and the scratch rows -/
theorem Mst.tr1 {M : mM} {d t : Nat} {v tx : pV} {st : Nat → pV} {rf : Nat → Int32} (h : Mst M d v st rf tx t) (H A B u : pV) : Mst (mi_pv (mi_pv (mi_pv (mi_pv M 31 0 H) 34 0 A) 35 0 B) 30 0 u) d u st rf tx t := by
  obtain ⟨x1, x2, x3, x4, x5, x6⟩ := h
  have other : ∀ t', t' ≠ 30 → t' ≠ 31 → t' ≠ 34 → t' ≠ 35 → (mi_pv (mi_pv (mi_pv (mi_pv M 31 0 H) 34 0 A) 35 0 B) 30 0 u).1 t' = M.1 t' := fun t' a b c d => by rw [mi_pv_t a, mi_pv_t d, mi_pv_t c, mi_pv_t b]
  refine ⟨?_, mi_pv_at _ _ _ _, fun k hk p hp => ?_, fun i hi => ?_, ?_, ?_⟩
  · rw [other 41 (by decide) (by decide) (by decide) (by decide)]; exact x1
  · rw [other 32 (by decide) (by decide) (by decide) (by decide)]; exact x3 k hk p hp
  · rw [other 33 (by decide) (by decide) (by decide) (by decide)]; exact x4 i hi
  · rw [other 41 (by decide) (by decide) (by decide) (by decide)]; exact x5
  · rw [other 38 (by decide) (by decide) (by decide) (by decide)]; exact x6
theorem frM.tr1 {M : mM} {H A B u : pV} : frM M (mi_pv (mi_pv (mi_pv (mi_pv M 31 0 H) 34 0 A) 35 0 B) 30 0 u) := (((frM.pv (by decide) (by decide)).tr (frM.pv (by decide) (by decide))).tr (frM.pv (by decide) (by decide))).tr (frM.pv (by decide) (by decide))
theorem M_change {M : mM} {n m T d t : Nat} {w tx : pV} {st : Nat → pV} {rf : Nat → Int32} (hd : d ≤ 5) (h : Mst M d w st rf tx t) (wf : pv_wf n m T w) (hT : T + 2000 < 2000000000) (L a b c : Int32) :
    ∃ M', frM M M' ∧ ((fM_hold M).bind fun M1 => (fM_op L a b c M1).bind fun q2 => (fM_ends q2.1 q2.2).bind fun q3 => some (q3.1, q3.2)) = some ((pv_op n m w L a b c).1, M') ∧ ((((pv_op n m w L a b c).1 = -1002 ∨ (pv_op n m w L a b c).1 = -1004) ∧ (pv_op n m w L a b c).2 = w ∧ Mst M' d w st (rf_up rf (st_ri (pv_op n m w L a b c).1)) tx t) ∨ (0 ≤ (pv_op n m w L a b c).1.toInt ∧ Mst M' (st_dn d) (pv_op n m w L a b c).2 (st_push d w st) rf tx t)) := by
  obtain ⟨H, hH, e1⟩ := cM_hold (M := M)
  have hv : M.1 30 0 = w := h.2.1
  obtain ⟨A, B, e2⟩ := cM_op (M := mi_pv M 31 0 H) (v := w) (by rw [mi_pv_net (by decide)]; exact hv) wf hT L a b c
  have hS := Mst.tr1 h H A B (pv_op n m w L a b c).2
  have hf : frM M (mi_pv (mi_pv (mi_pv (mi_pv M 31 0 H) 34 0 A) 35 0 B) 30 0 (pv_op n m w L a b c).2) := frM.tr1
  rw [e1, Option.bind_some, e2, Option.bind_some]
  simp only
  rw [fM_ends_eq]
  obtain ⟨-, g2⟩ := gd_op wf (pv_eq.rf (n := n) (m := m) (v := w)) hT L a b c
  rcases g2 with ⟨hb, e3, -⟩ | ⟨hp, -⟩
  · obtain ⟨M', f1, f2, f3⟩ := M_refuses hS (a := (pv_op n m w L a b c).1) (by rcases hb with q | q <;> rw [q] <;> decide)
    refine ⟨M', hf.tr f1, ?_, Or.inl ⟨hb, e3, ?_⟩⟩
    · rw [if_neg (by rcases hb with q | q <;> rw [q] <;> decide), f2]
      rfl
    · rw [e3] at f3; exact f3
  · obtain ⟨M', f1, f2, f3, -⟩ := M_push hd hS (w := w) (fun p hp => by rw [mi_pv_net (by decide), mi_pv_net (by decide), mi_pv_net (by decide), mi_pv_at, hH p hp, hv])
    refine ⟨M', hf.tr f1, ?_, Or.inr ⟨hp, f3⟩⟩
    rw [if_pos (by rw [i_le, k_0]; exact hp), f2]
    rfl
