/-! PURE: the relation of the two states; the calls that change -/
def Rc (T : Nat) (M : mM) (d t n m : Nat) (v w : pV) (sv sw : Nat → pV) (rf : Nat → Int32) (tx ty : pV) : Prop :=
  d ≤ 5 ∧ t ≤ 120 ∧ Cst M d v sv rf tx t ∧ Mst M d w sw rf ty t ∧ pv_wf n m T v ∧ pv_eq n m v w ∧ (∀ k, k < d → ∃ n' m', pv_wf n' m' T (sv k) ∧ pv_eq n' m' (sv k) (sw k)) ∧ (∀ k, k < t → tx k = ty k ∧ 0 ≤ (tx k).toInt)
def Rl (T : Nat) (M : mM) : Prop := ∃ d t n m v w sv sw rf tx ty, Rc T M d t n m v w sv sw rf tx ty
def Okc {α : Type} (fX fM : mM → Option (α × mM)) : Prop := ∀ T M, T + 80000 < 2000000000 → Rl T M → ∃ a M1 M2, fX M = some (a, M1) ∧ fM M1 = some (a, M2) ∧ Rl (T + 80000) M2 ∧ frC M M1 ∧ frM M1 M2
theorem stu_ok {T T' d : Nat} {sv sw : Nat → pV} (hT : T ≤ T') (h : ∀ k, k < d → ∃ n' m', pv_wf n' m' T (sv k) ∧ pv_eq n' m' (sv k) (sw k)) : ∀ k, k < d → ∃ n' m', pv_wf n' m' T' (sv k) ∧ pv_eq n' m' (sv k) (sw k) := fun k hk => by
  obtain ⟨n', m', a, b⟩ := h k hk
  exact ⟨n', m', pv_wf_T hT a, b⟩
theorem stp_ok {T n m d : Nat} {v w : pV} {sv sw : Nat → pV} (hd : d ≤ 5) (wf : pv_wf n m T v) (he : pv_eq n m v w) (h : ∀ k, k < d → ∃ n' m', pv_wf n' m' T (sv k) ∧ pv_eq n' m' (sv k) (sw k)) : ∀ k, k < st_dn d → ∃ n' m', pv_wf n' m' T (st_push d v sv k) ∧ pv_eq n' m' (st_push d v sv k) (st_push d w sw k) := fun k hk => by
  unfold st_push
  unfold st_dn at hk
  by_cases h5 : d < 5
  · rw [if_pos h5] at hk
    rw [if_pos h5, if_pos h5]
    by_cases ek : k = d
    · rw [if_pos ek, if_pos ek]; exact ⟨n, m, wf, he⟩
    · rw [if_neg ek, if_neg ek]; exact h k (by omega)
  · rw [if_neg h5] at hk
    rw [if_neg h5, if_neg h5]
    by_cases ek : k = 4
    · rw [if_pos ek, if_pos ek]; exact ⟨n, m, wf, he⟩
    · rw [if_neg ek, if_neg ek]; exact h (k + 1) (by omega)
theorem st_dn_le {d : Nat} : st_dn d ≤ 5 := by unfold st_dn; split <;> omega
/-- an answer with nothing but scratch changed, or with a refusal counted -/
theorem Rc.get {T d t n m : Nat} {M M1 M2 : mM} {v w w' tx ty : pV} {sv sw : Nat → pV} {rf rf' : Nat → Int32} (h : Rc T M d t n m v w sv sw rf tx ty) (hC : Cst M1 d v sv rf' tx t) (f : frM M1 M2) (hM : Mst M2 d w' sw rf' ty t) (hw : ∀ p, p < 154 → w' p = w p) : Rl (T + 80000) M2 := by
  obtain ⟨h1, h2, h3, h4, h5, h6, h7, h8⟩ := h
  have hn := h5.2.2.1
  have hm := h5.2.2.2.1
  exact ⟨d, t, n, m, v, w', sv, sw, rf', tx, ty, h1, h2, hC.fr f, hM, pv_wf_T (by omega) h5, h6.tr (fun p hp => (hw p (by omega)).symm), stu_ok (by omega) h7, h8⟩
/-- refused by both -/
theorem Rc.no {T d t n m : Nat} {M : mM} {v w tx ty : pV} {sv sw : Nat → pV} {rf : Nat → Int32} (h : Rc T M d t n m v w sv sw rf tx ty) {a : Int32} (ha : a = -1002 ∨ a = -1003 ∨ a = -1004) : ∃ M1 M2, fX_refuse a M = some (a, M1) ∧ fM_refuses a M1 = some (a, M2) ∧ Rl (T + 80000) M2 ∧ frC M M1 ∧ frM M1 M2 := by
  obtain ⟨h1, h2, h3, h4, h5, h6, h7, h8⟩ := id h
  obtain ⟨M1, a1, a2, a3⟩ := X_refuse h3 a
  obtain ⟨M2, b1, b2, b3⟩ := M_refuses (h4.fr a1) ha
  exact ⟨M1, M2, a2, b2, h.get a3 b1 b3 (fun _ _ => rfl), a1, b1⟩
theorem ok_change {L : Int32} (hL : pv_let L) (a b c : Int32) : Okc (fX_change L a b c) (fun M => (fM_hold M).bind fun M1 => (fM_op L a b c M1).bind fun q2 => (fM_ends q2.1 q2.2).bind fun q3 => some (q3.1, q3.2)) := by
  intro T M hT ⟨d, t, n, m, v, w, sv, sw, rf, tx, ty, h⟩
  obtain ⟨h1, h2, h3, h4, h5, h6, h7, h8⟩ := id h
  obtain ⟨M1, a1, a2, a3⟩ := X_change h1 h3 h5 h6 (by omega) hL a b c
  obtain ⟨M2, b1, b2, b3⟩ := M_change h1 (h4.fr a1) (h6.wf h5) (by omega) L a b c
  refine ⟨_, M1, M2, a2, b2, ?_, a1, b1⟩
  rcases a3 with ⟨hb, e, c1⟩ | ⟨hp, n', m', u, w1, w2, c1⟩
  · rcases b3 with ⟨-, -, c2⟩ | ⟨hp, -⟩
    · exact h.get c1 b1 c2 (fun _ _ => rfl)
    · exfalso
      rcases hb with q | q <;> rw [q] at hp <;> revert hp <;> decide
  · rcases b3 with ⟨hb, -, -⟩ | ⟨-, c2⟩
    · exfalso
      rcases hb with q | q <;> rw [q] at hp <;> revert hp <;> decide
    · exact ⟨_, t, n', m', u, _, _, _, rf, tx, ty, st_dn_le, h2, c1.fr b1, c2, pv_wf_T (by omega) w1, w2, stu_ok (T := T) (by omega) (stp_ok h1 h5 h6 h7), h8⟩
theorem Okc.cg {α : Type} {fX fM gX gM : mM → Option (α × mM)} (h : Okc fX fM) (h1 : ∀ M, gX M = fX M) (h2 : ∀ M, gM M = fM M) : Okc gX gM := by
  rw [show gX = fX from funext h1, show gM = fM from funext h2]; exact h
theorem bind_id {α : Type} (x : Option (α × mM)) : (x.bind fun q => some (q.1, q.2)) = x := by cases x <;> rfl
theorem ok_node (a b : Int32) : Okc (fX_node a b) (fM_node a b) := (ok_change (L := 110) (by unfold pv_let; decide) a b 0).cg (fun M => by rw [fX_node_eq, bind_id]) (fun M => by rw [fM_node_eq]; rfl)
theorem ok_link (a b c : Int32) : Okc (fX_link a b c) (fM_link a b c) := (ok_change (L := 108) (by unfold pv_let; decide) a b c).cg (fun M => by rw [fX_link_eq, bind_id]) (fun M => by rw [fM_link_eq]; rfl)
theorem ok_owns (a b c : Int32) : Okc (fX_owns a b c) (fM_owns a b c) := (ok_change (L := 111) (by unfold pv_let; decide) a b c).cg (fun M => by rw [fX_owns_eq, bind_id]) (fun M => by rw [fM_owns_eq]; rfl)
theorem ok_turns (a : Int32) : Okc (fX_turns a) (fM_turns a) := (ok_change (L := 117) (by unfold pv_let; decide) a 0 0).cg (fun M => by rw [fX_turns_eq, bind_id]) (fun M => by rw [fM_turns_eq]; rfl)
theorem ok_sets (a b : Int32) : Okc (fX_sets a b) (fM_sets a b) := (ok_change (L := 115) (by unfold pv_let; decide) a b 0).cg (fun M => by rw [fX_sets_eq, bind_id]) (fun M => by rw [fM_sets_eq]; rfl)
theorem ok_clears (a : Int32) : Okc (fX_clears a) (fM_clears a) := (ok_change (L := 99) (by unfold pv_let; decide) a 0 0).cg (fun M => by rw [fX_clears_eq, bind_id]) (fun M => by rw [fM_clears_eq]; rfl)
theorem ok_looks (a : Int32) : Okc (fX_looks a) (fM_looks a) := (ok_change (L := 107) (by unfold pv_let; decide) a 0 0).cg (fun M => by rw [fX_looks_eq, bind_id]) (fun M => by rw [fM_looks_eq]; rfl)
theorem ok_ticks (a : Int32) : Okc (fX_ticks a) (fM_ticks a) := (ok_change (L := 116) (by unfold pv_let; decide) a 0 0).cg (fun M => by rw [fX_ticks_eq, bind_id]) (fun M => by rw [fM_ticks_eq]; rfl)
