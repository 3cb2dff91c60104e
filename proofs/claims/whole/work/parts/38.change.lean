/-! PURE: a call that changes: the class's -/
def frC (M M' : mM) : Prop := (∀ t, 7 ≤ t → M'.1 t = M.1 t) ∧ M'.2.2 = M.2.2
def frM (M M' : mM) : Prop := (∀ t, (t < 30 ∨ 50 ≤ t) → M'.1 t = M.1 t) ∧ M'.2.1 = M.2.1
theorem frC.rf (M : mM) : frC M M := ⟨fun _ _ => rfl, rfl⟩
theorem frC.tr {M M' M'' : mM} (h : frC M M') (h' : frC M' M'') : frC M M'' := ⟨fun t ht => (h'.1 t ht).trans (h.1 t ht), h'.2.trans h.2⟩
theorem frM.rf (M : mM) : frM M M := ⟨fun _ _ => rfl, rfl⟩
theorem frM.tr {M M' M'' : mM} (h : frM M M') (h' : frM M' M'') : frM M M'' := ⟨fun t ht => (h'.1 t ht).trans (h.1 t ht), h'.2.trans h.2⟩
theorem mi_pv_t {M : mM} {t j t' : Nat} {v : pV} (h : t' ≠ t) : (mi_pv M t j v).1 t' = M.1 t' := funext fun j' => mi_pv_net h
theorem frC.pv {M : mM} {t j : Nat} {v : pV} (ht : t < 7) : frC M (mi_pv M t j v) := ⟨fun t' h => mi_pv_t (by omega), rfl⟩
theorem frC.ms {M : mM} {S : Nat → Nat} : frC M (mi_ms M S) := ⟨fun _ _ => rfl, rfl⟩
theorem frM.pv {M : mM} {t j : Nat} {v : pV} (h1 : 30 ≤ t) (h2 : t < 50) : frM M (mi_pv M t j v) := ⟨fun t' h => mi_pv_t (by omega), rfl⟩
/-- the class's state: how many states, the net now, the states' nets, how often refused, the text -/
def Cst (M : mM) (d : Nat) (v : pV) (st : Nat → pV) (rf : Nat → Int32) (tx : pV) (t : Nat) : Prop :=
  inj7 M.2.1 ∧ M.1 3 0 0 = nI d ∧ M.1 0 (M.2.1 0) = v ∧ (∀ k, k < d → M.1 0 (M.2.1 (2 + k)) = st k) ∧ (∀ i, i < 3 → M.1 3 0 (1 + i) = rf i) ∧ M.1 6 0 0 = nI t ∧ M.1 4 0 = tx
def Mst (M : mM) (d : Nat) (v : pV) (st : Nat → pV) (rf : Nat → Int32) (tx : pV) (t : Nat) : Prop :=
  M.1 41 0 0 = nI d ∧ M.1 30 0 = v ∧ (∀ k, k < d → ∀ p, p < 154 → M.1 32 0 (154 * k + p) = st k p) ∧ (∀ i, i < 3 → M.1 33 0 i = rf i) ∧ M.1 41 0 3 = nI t ∧ M.1 38 0 = tx
theorem Cst.fr {M M' : mM} {d t : Nat} {v tx : pV} {st : Nat → pV} {rf : Nat → Int32} (h : Cst M d v st rf tx t) (f : frM M M') : Cst M' d v st rf tx t := by
  obtain ⟨a, b, c, e, g, k, l⟩ := h
  unfold Cst
  rw [f.2, f.1 3 (by omega), f.1 0 (by omega), f.1 6 (by omega), f.1 4 (by omega)]
  exact ⟨a, b, c, e, g, k, l⟩
theorem Mst.fr {M M' : mM} {d t : Nat} {v tx : pV} {st : Nat → pV} {rf : Nat → Int32} (h : Mst M d v st rf tx t) (f : frC M M') : Mst M' d v st rf tx t := by
  obtain ⟨a, b, c, e, g, k⟩ := h
  unfold Mst
  rw [f.1 41 (by omega), f.1 30 (by omega), f.1 32 (by omega), f.1 33 (by omega), f.1 38 (by omega)]
  exact ⟨a, b, c, e, g, k⟩
/-- a state more -/
def st_push (d : Nat) (v : pV) (st : Nat → pV) : Nat → pV := fun k => if d < 5 then (if k = d then v else st k) else (if k = 4 then v else st (k + 1))
def st_dn (d : Nat) : Nat := if d < 5 then d + 1 else 5
def rf_up (rf : Nat → Int32) (i : Nat) : Nat → Int32 := fun k => if k = i then rf k + 1 else rf k
theorem st_ri_lt (a : Int32) : st_ri a < 3 := by unfold st_ri; split <;> (try split) <;> omega
theorem X_refuse {M : mM} {d t : Nat} {v tx : pV} {st : Nat → pV} {rf : Nat → Int32} (h : Cst M d v st rf tx t) (a : Int32) : ∃ M', frC M M' ∧ fX_refuse a M = some (a, M') ∧ Cst M' d v st (rf_up rf (st_ri a)) tx t := by
  obtain ⟨x1, x2, x3, x4, x5, x6, x7⟩ := h
  refine ⟨_, frC.pv (by decide), cX_refuse, x1, ?_, ?_, fun k hk => ?_, fun i hi => ?_, ?_, ?_⟩
  · rw [mi_pv_at, upd_ne (by omega)]; exact x2
  · rw [mi_pv_net (by decide)]; exact x3
  · rw [mi_pv_net (by decide)]; exact x4 k hk
  · rw [mi_pv_at]
    unfold rf_up
    by_cases e : i = st_ri a
    · rw [e, upd_same, if_pos rfl, x5 _ (st_ri_lt a)]
    · rw [upd_ne (by omega), if_neg e]; exact x5 i hi
  · rw [mi_pv_net (by decide)]; exact x6
  · rw [mi_pv_net (by decide)]; exact x7
theorem X_keep {M : mM} {d t : Nat} {v tx : pV} {st : Nat → pV} {rf : Nat → Int32} (hd : d ≤ 5) (h : Cst M d v st rf tx t) : ∃ M', frC M M' ∧ fX_keepTrial M = some M' ∧ Cst M' (st_dn d) (M.1 0 (M.2.1 1)) (st_push d v st) rf tx t ∧ M'.1 5 = M.1 5 ∧ M'.1 6 = M.1 6 := by
  obtain ⟨x1, x2, x3, x4, x5, x6, x7⟩ := h
  obtain ⟨S', s1, s2, s3, s4, e⟩ := keep_trial hd x1 x2
  refine ⟨_, (frC.pv (by decide)).tr frC.ms, e, ⟨s1, ?_, ?_, fun k hk => ?_, fun i hi => ?_, ?_, ?_⟩, ?_, ?_⟩
  · show (mi_pv M 3 0 (upd (M.1 3 0) 0 (nI (if d < 5 then d + 1 else 5)))).1 3 0 0 = _
    rw [mi_pv_at, upd_same]
    rfl
  · show (mi_pv M 3 0 (upd (M.1 3 0) 0 (nI (if d < 5 then d + 1 else 5)))).1 0 (S' 0) = _
    rw [mi_pv_net (by decide), s2]
  · show (mi_pv M 3 0 (upd (M.1 3 0) 0 (nI (if d < 5 then d + 1 else 5)))).1 0 (S' (2 + k)) = _
    rw [mi_pv_net (by decide)]
    unfold st_push
    unfold st_dn at hk
    by_cases h5 : d < 5
    · rw [if_pos h5] at hk ⊢
      obtain ⟨q1, q2⟩ := s3 h5
      by_cases ek : k = d
      · rw [if_pos ek, ek, q2]; exact x3
      · rw [if_neg ek, q1 k (by omega)]; exact x4 k (by omega)
    · rw [if_neg h5] at hk ⊢
      obtain ⟨q1, q2⟩ := s4 (by omega)
      by_cases ek : k = 4
      · rw [if_pos ek, ek, show 2 + 4 = 6 from rfl, q2]; exact x3
      · rw [if_neg ek, q1 k (by omega), show 3 + k = 2 + (k + 1) by omega]; exact x4 (k + 1) (by omega)
  · show (mi_pv M 3 0 (upd (M.1 3 0) 0 (nI (if d < 5 then d + 1 else 5)))).1 3 0 (1 + i) = _
    rw [mi_pv_at, upd_ne (by omega)]; exact x5 i hi
  · show (mi_pv M 3 0 (upd (M.1 3 0) 0 (nI (if d < 5 then d + 1 else 5)))).1 6 0 0 = _
    rw [mi_pv_net (by decide)]; exact x6
  · show (mi_pv M 3 0 (upd (M.1 3 0) 0 (nI (if d < 5 then d + 1 else 5)))).1 4 0 = _
    rw [mi_pv_net (by decide)]; exact x7
  · exact mi_pv_t (M := M) (t := 3) (t' := 5) (j := 0) (v := (upd (M.1 3 0) 0 (nI (if d < 5 then d + 1 else 5)))) (by decide)
  · exact mi_pv_t (M := M) (t := 3) (t' := 6) (j := 0) (v := (upd (M.1 3 0) 0 (nI (if d < 5 then d + 1 else 5)))) (by decide)
/-- a net other than the one now and the states' is written -/
theorem Cst.tr1 {M : mM} {d t : Nat} {v tx : pV} {st : Nat → pV} {rf : Nat → Int32} (hd : d ≤ 5) (h : Cst M d v st rf tx t) (K F u : pV) : Cst (mi_pv (mi_pv (mi_pv M 2 (M.2.1 1) K) 1 (M.2.1 1) F) 0 (M.2.1 1) u) d v st rf tx t := by
  obtain ⟨x1, x2, x3, x4, x5, x6, x7⟩ := h
  have ne0 : M.2.1 0 ≠ M.2.1 1 := fun e => by have := x1.2 0 (by decide) 1 (by decide) e; omega
  have nek : ∀ k, k < 5 → M.2.1 (2 + k) ≠ M.2.1 1 := fun k hk e => by have := x1.2 (2 + k) (by omega) 1 (by decide) e; omega
  have other : ∀ t', t' ≠ 0 → t' ≠ 1 → t' ≠ 2 → (mi_pv (mi_pv (mi_pv M 2 (M.2.1 1) K) 1 (M.2.1 1) F) 0 (M.2.1 1) u).1 t' = M.1 t' := fun t' a b c => by rw [mi_pv_t a, mi_pv_t b, mi_pv_t c]
  refine ⟨x1, by rw [other 3 (by decide) (by decide) (by decide)]; exact x2, ?_, fun k hk => ?_, fun i hi => by rw [other 3 (by decide) (by decide) (by decide)]; exact x5 i hi, by rw [other 6 (by decide) (by decide) (by decide)]; exact x6, by rw [other 4 (by decide) (by decide) (by decide)]; exact x7⟩
  · show (mi_pv _ 0 (M.2.1 1) u).1 0 (M.2.1 0) = v
    rw [mi_pv_nej ne0, mi_pv_net (by decide), mi_pv_net (by decide)]; exact x3
  · show (mi_pv _ 0 (M.2.1 1) u).1 0 (M.2.1 (2 + k)) = _
    rw [mi_pv_nej (nek k (by omega)), mi_pv_net (by decide), mi_pv_net (by decide)]; exact x4 k hk
theorem frC.tr1 {M : mM} {j : Nat} {K F u : pV} : frC M (mi_pv (mi_pv (mi_pv M 2 j K) 1 j F) 0 j u) := ((frC.pv (by decide)).tr (frC.pv (by decide))).tr (frC.pv (by decide))
theorem X_copy {M : mM} {n m T d t : Nat} {v tx : pV} {st : Nat → pV} {rf : Nat → Int32} (hd : d ≤ 5) (h : Cst M d v st rf tx t) (wf : pv_wf n m T v) : ∃ u, pv_eq n m v u ∧ fN_copyFrom (M.2.1 1) (M.2.1 0) M = some (mi_pv M 0 (M.2.1 1) u) ∧ Cst (mi_pv M 0 (M.2.1 1) u) d v st rf tx t := by
  have ne0 : M.2.1 1 ≠ M.2.1 0 := fun e => by have := h.1.2 1 (by decide) 0 (by decide) e; omega
  obtain ⟨u, u1, u2⟩ := cN_copyFrom ne0 h.2.2.1 wf.1 wf.2.1 wf.2.2.1 wf.2.2.2.1
  refine ⟨u, u1, u2, ?_⟩
  have := Cst.tr1 hd h (M.1 2 (M.2.1 1)) (M.1 1 (M.2.1 1)) u
  rw [mi_pv_self, mi_pv_self] at this
  exact this
/-- a call that changes something, or is refused -/
theorem X_change {M : mM} {n m T d t : Nat} {v w tx : pV} {st : Nat → pV} {rf : Nat → Int32} (hd : d ≤ 5) (h : Cst M d v st rf tx t) (wf : pv_wf n m T v) (he : pv_eq n m v w) (hT : T + 2000 < 2000000000) {L : Int32} (hL : pv_let L) (a b c : Int32) :
    ∃ M', frC M M' ∧ fX_change L a b c M = some ((pv_op n m w L a b c).1, M') ∧ ((((pv_op n m w L a b c).1 = -1002 ∨ (pv_op n m w L a b c).1 = -1004) ∧ (pv_op n m w L a b c).2 = w ∧ Cst M' d v st (rf_up rf (st_ri (pv_op n m w L a b c).1)) tx t) ∨ (0 ≤ (pv_op n m w L a b c).1.toInt ∧ ∃ n' m' u, pv_wf n' m' (T + 2000) u ∧ pv_eq n' m' u (pv_op n m w L a b c).2 ∧ Cst M' (st_dn d) u (st_push d v st) rf tx t)) := by
  obtain ⟨u, u1, u2, u3⟩ := X_copy hd h wf
  have wfu := u1.wf wf
  have euw : pv_eq n m u w := u1.sy.tr he
  obtain ⟨K, F, e⟩ := cN_carryOut (M := mi_pv M 0 (M.2.1 1) u) (j := M.2.1 1) (mi_pv_at _ _ _ _) wfu hT hL a b c
  have hC : Cst (mi_pv (mi_pv (mi_pv (mi_pv M 0 (M.2.1 1) u) 2 (M.2.1 1) K) 1 (M.2.1 1) F) 0 (M.2.1 1) (pv_op n m u L a b c).2) d v st rf tx t := Cst.tr1 hd u3 K F (pv_op n m u L a b c).2
  have fr1 : frC M (mi_pv (mi_pv (mi_pv (mi_pv M 0 (M.2.1 1) u) 2 (M.2.1 1) K) 1 (M.2.1 1) F) 0 (M.2.1 1) (pv_op n m u L a b c).2) := (frC.pv (by decide)).tr frC.tr1
  obtain ⟨g1, g2⟩ := gd_op wfu euw hT L a b c
  rw [fX_change_eq, u2, Option.bind_some]
  show ∃ M', frC M M' ∧ ((fN_carryOut (M.2.1 1) L a b c (mi_pv M 0 (M.2.1 1) u)).bind fun q2 => (if 0 ≤ q2.1 then (fX_keepTrial q2.2).bind fun M3 => some (q2.1, M3) else (fX_refuse q2.1 q2.2).bind fun q4 => some (q4.1, q4.2))) = _ ∧ _
  rw [e, Option.bind_some]
  rcases g2 with ⟨hb, -, e2⟩ | ⟨hp, n', m', w1, w2⟩
  · obtain ⟨M', f1, f2, f3⟩ := X_refuse hC (pv_op n m u L a b c).1
    refine ⟨M', fr1.tr f1, ?_, Or.inl ⟨by rw [← g1]; exact hb, e2, by rw [← g1]; exact f3⟩⟩
    simp only
    rw [if_neg (by rcases hb with q | q <;> rw [q] <;> decide), f2, g1]
    rfl
  · obtain ⟨M', f1, f2, f3, -⟩ := X_keep hd hC
    refine ⟨M', fr1.tr f1, ?_, Or.inr ⟨by rw [← g1]; exact hp, n', m', (pv_op n m u L a b c).2, w1, w2, ?_⟩⟩
    · simp only
      rw [if_pos (by rw [i_le, k_0]; exact hp), f2, g1]
      rfl
    · have hz : (mi_pv (mi_pv (mi_pv (mi_pv M 0 (M.2.1 1) u) 2 (M.2.1 1) K) 1 (M.2.1 1) F) 0 (M.2.1 1) (pv_op n m u L a b c).2).1 0 (M.2.1 1) = (pv_op n m u L a b c).2 := mi_pv_at _ _ _ _
      have := f3
      rw [show (mi_pv (mi_pv (mi_pv (mi_pv M 0 (M.2.1 1) u) 2 (M.2.1 1) K) 1 (M.2.1 1) F) 0 (M.2.1 1) (pv_op n m u L a b c).2).2.1 1 = M.2.1 1 from rfl, hz] at this
      exact this
