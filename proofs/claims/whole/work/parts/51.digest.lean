/-! PURE: digest agrees -/
def dg_f (f : Nat → Int32) : Nat → Int64 → Int64 := fun i h => (31 * h) + (f i).toInt64
def pv_dn (v : pV) : Nat → Int64 → Int64 := fun i h => (31 * mi_lp (dg_f fun k => v (6 + 8 * i + k)) 8 0 h) + (pv_b (pv_fol v 6 0 (nI i)).2).toInt64
def pv_o0 (v : pV) (l : Nat) : Int32 := if pv_off v l = true then pv_of v l 0 else -1001
def pv_dl (v : pV) : Nat → Int64 → Int64 := fun l h => (31 * mi_lp (dg_f fun k => v (54 + 10 * l + k)) 10 0 h) + (pv_o0 v l).toInt64
def pv_d2 (n m d t : Nat) (rf : Nat → Int32) (v : pV) : Int64 := mi_lp (dg_f (pv_count n m v)) 10 0 (mi_lp (dg_f (rf_told d t rf)) 5 0 2792)
def pv_dig (n m d t : Nat) (rf : Nat → Int32) (v : pV) : Int64 := (31 * mi_lp (pv_dl v) m 0 (mi_lp (pv_dn v) n 0 (pv_d2 n m d t rf v))) + (pv_stl n m 31 0 v).toInt64
theorem lp_cgL {F G : Nat → Int64 → Int64} : ∀ (c i : Nat) (h : Int64), (∀ k h, i ≤ k → k < i + c → F k h = G k h) → mi_lp F c i h = mi_lp G c i h := by
  intro c
  induction c with
  | zero => intro i h _; rfl
  | succ c ih =>
    intro i h e
    rw [mi_lp_S, mi_lp_S, e i h (by omega) (by omega)]
    exact ih (i + 1) _ (fun k h' h1 h2 => e k h' (by omega) (by omega))
theorem dg_cg {f g : Nat → Int32} (c i : Nat) (h : Int64) (e : ∀ k, i ≤ k → k < i + c → f k = g k) : mi_lp (dg_f f) c i h = mi_lp (dg_f g) c i h :=
  lp_cgL c i h (fun k h' h1 h2 => congrArg (fun x : Int32 => (31 * h') + x.toInt64) (e k h1 h2))
theorem cg_dig {n m T d t : Nat} {rf : Nat → Int32} {v w : pV} (wf : pv_wf n m T v) (he : pv_eq n m v w) : pv_dig n m d t rf v = pv_dig n m d t rf w := by
  have e2 : pv_d2 n m d t rf v = pv_d2 n m d t rf w := by
    unfold pv_d2
    exact dg_cg 10 0 _ (fun k _ _ => cg_count wf he k)
  have e3 : ∀ h, mi_lp (pv_dn v) n 0 h = mi_lp (pv_dn w) n 0 h := fun h => lp_cgL n 0 h (fun k h' _ hk => by
    unfold pv_dn
    rw [dg_cg (g := fun a => w (6 + 8 * k + a)) 8 0 h' (fun a _ ha => he.nd (by omega) (by omega)), cg_fol wf he 6 0 _ (Or.inr ⟨k, by omega, rfl⟩)])
  have e4 : ∀ h, mi_lp (pv_dl v) m 0 h = mi_lp (pv_dl w) m 0 h := fun h => lp_cgL m 0 h (fun k h' _ hk => by
    unfold pv_dl pv_o0
    rw [dg_cg (g := fun a => w (54 + 10 * k + a)) 10 0 h' (fun a _ ha => he.lk (by omega) (by omega)), cg_off wf he (by omega), cg_of wf he (by omega) (by decide)])
  unfold pv_dig
  rw [e2, e3, e4, cg_stl 31 0 _ _ wf he]
section DX
variable {n m T d t : Nat} {M : mM} {v tx : pV} {st : Nat → pV} {rf : Nat → Int32}
theorem cX_dg6 (h : Cst M d v st rf tx t) : ∀ (c i : Nat) (x : Int64), i + c = 5 → fX_digest_L6 x (nI i) M = fX_digest_L32 (mi_lp (dg_f (rf_told d t rf)) c i x) 0 M := by
  intro c
  induction c with
  | zero => intro i x hi; rw [fX_digest_L6_eq, if_pos (show (5 : Int32) ≤ nI i from lit_le (k := 5) (by omega) (by omega))]; rfl
  | succ c ih =>
    intro i x hi
    rw [fX_digest_L6_eq, if_neg (show ¬ (5 : Int32) ≤ nI i from nI_ge (b := 5) (by omega) (by decide)), cX_told h (by omega), Option.bind_some, nI_1, mi_lp_S]
    exact ih (i + 1) _ (by omega)
theorem cX_dg32 (h : Cst M d v st rf tx t) (wf : pv_wf n m T v) : ∀ (c i : Nat) (x : Int64), i + c = 10 → fX_digest_L32 x (nI i) M = fX_digest_L59 (mi_lp (dg_f (pv_count n m v)) c i x) 0 M := by
  intro c
  induction c with
  | zero => intro i x hi; rw [fX_digest_L32_eq, if_pos (show (10 : Int32) ≤ nI i from lit_le (k := 10) (by omega) (by omega))]; rfl
  | succ c ih =>
    intro i x hi
    rw [fX_digest_L32_eq, if_neg (show ¬ (10 : Int32) ≤ nI i from nI_ge (b := 10) (by omega) (by decide)), cX_count h wf (by omega), Option.bind_some, nI_1, mi_lp_S]
    exact ih (i + 1) _ (by omega)
theorem cX_row12 {j i : Nat} (hv : M.1 0 j = v) : ∀ (c k : Nat) (x : Int64), k + c = 8 → fX_digestRow12_L5 j i x (nI k) M = some (mi_lp (dg_f fun k => v (6 + 8 * i + k)) c k x, M) := by
  intro c
  induction c with
  | zero => intro k x hk; rw [fX_digestRow12_L5_eq, if_pos (show Int32.ofNat 8 ≤ nI k from lit_le (k := 8) (by omega) (by omega))]; rfl
  | succ c ih =>
    intro k x hk
    rw [fX_digestRow12_L5_eq, if_neg (show ¬ Int32.ofNat 8 ≤ nI k from nI_ge (b := 8) (by omega) (by decide)), mi_ix_n (by omega : k < 8) (by decide), Option.bind_some, nI_1, mi_lp_S, hv]
    exact ih (k + 1) _ (by omega)
theorem cX_row14 {j i : Nat} (hv : M.1 0 j = v) : ∀ (c k : Nat) (x : Int64), k + c = 10 → fX_digestRow14_L5 j i x (nI k) M = some (mi_lp (dg_f fun k => v (54 + 10 * i + k)) c k x, M) := by
  intro c
  induction c with
  | zero => intro k x hk; rw [fX_digestRow14_L5_eq, if_pos (show Int32.ofNat 10 ≤ nI k from lit_le (k := 10) (by omega) (by omega))]; rfl
  | succ c ih =>
    intro k x hk
    rw [fX_digestRow14_L5_eq, if_neg (show ¬ Int32.ofNat 10 ≤ nI k from nI_ge (b := 10) (by omega) (by decide)), mi_ix_n (by omega : k < 10) (by decide), Option.bind_some, nI_1, mi_lp_S, hv]
    exact ih (k + 1) _ (by omega)
theorem cX_ring (h : Cst M d v st rf tx t) (wf : pv_wf n m T v) {i : Nat} (hi : i < n) : fX_ring (nI i) M = some (pv_b (pv_fol v 6 0 (nI i)).2, M) := by
  have hv : M.1 0 (M.2.1 0) = v := h.2.2.1
  have hn := wf.2.2.1
  rw [fX_ring_eq, cN_hasNode hv wf.1 hn, pv_bt (pv_isn_nI hi (by omega)), Option.bind_some]
  simp only
  rw [if_pos (by decide), cN_isRing hv wf hi, Option.bind_some]
  cases (pv_fol v 6 0 (nI i)).2 <;> rfl
theorem cX_offers0 (h : Cst M d v st rf tx t) (wf : pv_wf n m T v) {l : Nat} (hl : l < m) : fX_offers (nI l) 0 M = some (pv_o0 v l, M) := by
  have hv : M.1 0 (M.2.1 0) = v := h.2.2.1
  have hm := wf.2.2.2.1
  rw [fX_offers_eq, cN_hasLink hv wf.2.1 hm, pv_bt (pv_isn_nI hl (by omega)), Option.bind_some]
  simp only
  rw [if_neg (by decide), cX_isWithin, pv_bt (show pv_in 0 0 2 = true by decide), Option.bind_some]
  simp only
  rw [if_pos (by decide), show fN_offered (M.2.1 0) (nI l) 0 M = _ from cN_offered hv wf (f := 0) hl (by decide)]
  rfl
theorem cX_dg59 (h : Cst M d v st rf tx t) (wf : pv_wf n m T v) : ∀ (c i : Nat) (x : Int64), i + c = n → fX_digest_L59 x (nI i) M = fX_digest_L103 (mi_lp (pv_dn v) c i x) 0 M := by
  have hv : M.1 0 (M.2.1 0) = v := h.2.2.1
  have hn := wf.2.2.1
  intro c
  induction c with
  | zero => intro i x hi; rw [fX_digest_L59_eq, hv, wf.1, if_pos (nI_le (by omega) (by omega))]; rfl
  | succ c ih =>
    intro i x hi
    rw [fX_digest_L59_eq, hv, wf.1, if_neg (nI_ge (by omega) (by omega)), mi_ix_n (by omega : i < 6) (by decide), Option.bind_some, fX_digestRow12_eq, show fX_digestRow12_L5 (M.2.1 0) i x 0 M = _ from cX_row12 hv 8 0 x (by omega), Option.bind_some]
    simp only
    rw [cX_ring h wf (by omega), Option.bind_some, nI_1, mi_lp_S]
    exact ih (i + 1) _ (by omega)
theorem cX_dg103 (hd : d ≤ 5) (h : Cst M d v st rf tx t) (wf : pv_wf n m T v) : ∃ M', frC M M' ∧ Cst M' d v st rf tx t ∧ ∀ (c i : Nat) (x : Int64), i + c = m → fX_digest_L103 x (nI i) M = some ((31 * mi_lp (pv_dl v) c i x) + (pv_stl n m 31 0 v).toInt64, M') := by
  have hv : M.1 0 (M.2.1 0) = v := h.2.2.1
  have hm := wf.2.2.2.1
  obtain ⟨M', a1, a2, -, a3⟩ := cX_settles hd h wf
  refine ⟨M', a1, a2, ?_⟩
  intro c
  induction c with
  | zero => intro i x hi; rw [fX_digest_L103_eq, hv, wf.2.1, if_pos (nI_le (by omega) (by omega)), a3]; rfl
  | succ c ih =>
    intro i x hi
    rw [fX_digest_L103_eq, hv, wf.2.1, if_neg (nI_ge (by omega) (by omega)), mi_ix_n (by omega : i < 10) (by decide), Option.bind_some, fX_digestRow14_eq, show fX_digestRow14_L5 (M.2.1 0) i x 0 M = _ from cX_row14 hv 10 0 x (by omega), Option.bind_some]
    simp only
    rw [cX_offers0 h wf (by omega), Option.bind_some, nI_1, mi_lp_S]
    exact ih (i + 1) _ (by omega)
theorem cX_digest (hd : d ≤ 5) (h : Cst M d v st rf tx t) (wf : pv_wf n m T v) : ∃ M', frC M M' ∧ Cst M' d v st rf tx t ∧ fX_digest M = some (pv_dig n m d t rf v, M') := by
  obtain ⟨M', a1, a2, a3⟩ := cX_dg103 hd h wf
  refine ⟨M', a1, a2, ?_⟩
  rw [fX_digest_eq, show fX_digest_L6 2792 0 M = _ from cX_dg6 h 5 0 2792 (by omega), show ∀ x, fX_digest_L32 x 0 M = _ from fun x => cX_dg32 h wf 10 0 x (by omega), show ∀ x, fX_digest_L59 x 0 M = _ from fun x => cX_dg59 h wf n 0 x (by omega), show ∀ x, fX_digest_L103 x 0 M = _ from fun x => a3 m 0 x (by omega)]
  rfl
end DX
theorem frM.sl {M : mM} {x : Int64} : frM M (mi_setL M x) := ⟨fun _ _ => rfl, rfl⟩
theorem Mst.sl {M : mM} {d t : Nat} {v tx : pV} {st : Nat → pV} {rf : Nat → Int32} (h : Mst M d v st rf tx t) (x : Int64) : Mst (mi_setL M x) d v st rf tx t := h
section DM
variable {n m T d t : Nat} {v tx : pV} {st : Nat → pV} {rf : Nat → Int32}
theorem cM_dg9 : ∀ (c i : Nat) (M : mM), Mst M d v st rf tx t → i + c = 5 → ∃ M', frM M M' ∧ Mst M' d v st rf tx t ∧ M'.2.2 = mi_lp (dg_f (rf_told d t rf)) c i M.2.2 ∧ fM_digest_L9 (nI i) M = fM_digest_L31 0 M' := by
  intro c
  induction c with
  | zero => intro i M h hi; exact ⟨M, frM.rf M, h, rfl, by rw [fM_digest_L9_eq, if_pos (show (5 : Int32) ≤ nI i from lit_le (k := 5) (by omega) (by omega))]⟩
  | succ c ih =>
    intro i M h hi
    obtain ⟨M', a1, a2, a3, a4⟩ := ih (i + 1) (mi_setL M ((31 * M.2.2) + (rf_told d t rf i).toInt64)) (h.sl _) (by omega)
    refine ⟨M', frM.sl.tr a1, a2, a3, ?_⟩
    rw [fM_digest_L9_eq, if_neg (show ¬ (5 : Int32) ≤ nI i from nI_ge (b := 5) (by omega) (by decide)), cM_told h (by omega), Option.bind_some]
    simp only
    rw [fM_mix_eq, Option.bind_some, nI_1]
    exact a4
theorem cM_dg31 (wf : pv_wf n m T v) : ∀ (c i : Nat) (M : mM), Mst M d v st rf tx t → i + c = 10 → ∃ M', frM M M' ∧ Mst M' d v st rf tx t ∧ M'.2.2 = mi_lp (dg_f (pv_count n m v)) c i M.2.2 ∧ fM_digest_L31 (nI i) M = fM_digest_L54 0 M' := by
  intro c
  induction c with
  | zero => intro i M h hi; exact ⟨M, frM.rf M, h, rfl, by rw [fM_digest_L31_eq, if_pos (show (10 : Int32) ≤ nI i from lit_le (k := 10) (by omega) (by omega))]⟩
  | succ c ih =>
    intro i M h hi
    obtain ⟨M1, b1, b2, b3, b4⟩ := cM_counted h wf (i := i) (by omega)
    obtain ⟨M', a1, a2, a3, a4⟩ := ih (i + 1) (mi_setL M1 ((31 * M1.2.2) + (pv_count n m v i).toInt64)) (b2.sl _) (by omega)
    refine ⟨M', b1.tr (frM.sl.tr a1), a2, ?_, ?_⟩
    · rw [a3, mi_lp_S, ← b3]; rfl
    · rw [fM_digest_L31_eq, if_neg (show ¬ (10 : Int32) ≤ nI i from nI_ge (b := 10) (by omega) (by decide)), b4, Option.bind_some]
      simp only
      rw [fM_mix_eq, Option.bind_some, nI_1]
      exact a4
theorem cM_dg66 (wf : pv_wf n m T v) {i : Nat} (hi : i < n) : ∀ (c k : Nat) (M : mM), Mst M d v st rf tx t → k + c = 8 → ∃ M', frM M M' ∧ Mst M' d v st rf tx t ∧ M'.2.2 = (31 * mi_lp (dg_f fun k => v (6 + 8 * i + k)) c k M.2.2) + (pv_b (pv_fol v 6 0 (nI i)).2).toInt64 ∧ fM_digest_L66 (nI i) (nI k) M = fM_digest_L54 (nI (i + 1)) M' := by
  have hn := wf.2.2.1
  intro c
  induction c with
  | zero =>
    intro k M h hk
    obtain ⟨M1, b1, b2, b3, b4⟩ := cM_ringOf h wf hi
    refine ⟨mi_setL M1 ((31 * M1.2.2) + (pv_b (pv_fol v 6 0 (nI i)).2).toInt64), b1.tr frM.sl, b2.sl _, ?_, ?_⟩
    · show (31 * M1.2.2) + _ = _
      rw [b3]; rfl
    · rw [fM_digest_L66_eq, if_pos (show (8 : Int32) ≤ nI k from lit_le (k := 8) (by omega) (by omega)), b4, Option.bind_some]
      simp only
      rw [fM_mix_eq, Option.bind_some, nI_1]
  | succ c ih =>
    intro k M h hk
    have hv : M.1 30 0 = v := h.2.1
    obtain ⟨M', a1, a2, a3, a4⟩ := ih (k + 1) (mi_setL M ((31 * M.2.2) + (v (6 + 8 * i + k)).toInt64)) (h.sl _) (by omega)
    refine ⟨M', frM.sl.tr a1, a2, a3, ?_⟩
    rw [fM_digest_L66_eq, if_neg (show ¬ (8 : Int32) ≤ nI k from nI_ge (b := 8) (by omega) (by decide)), cM_nodeAt hv (by omega) (by omega), Option.bind_some]
    simp only
    rw [fM_mix_eq, Option.bind_some, nI_1]
    exact a4
theorem cM_dg54 (wf : pv_wf n m T v) : ∀ (c i : Nat) (M : mM), Mst M d v st rf tx t → i + c = n → ∃ M', frM M M' ∧ Mst M' d v st rf tx t ∧ M'.2.2 = mi_lp (pv_dn v) c i M.2.2 ∧ fM_digest_L54 (nI i) M = fM_digest_L105 0 M' := by
  have hn := wf.2.2.1
  intro c
  induction c with
  | zero =>
    intro i M h hi
    have hv : M.1 30 0 = v := h.2.1
    exact ⟨M, frM.rf M, h, rfl, by rw [fM_digest_L54_eq, ix_4_154, Option.bind_some, hv, Nat.zero_add, wf.1, if_pos (nI_le (by omega) (by omega))]⟩
  | succ c ih =>
    intro i M h hi
    have hv : M.1 30 0 = v := h.2.1
    obtain ⟨M1, b1, b2, b3, b4⟩ := cM_dg66 wf (i := i) (by omega) 8 0 M h (by omega)
    obtain ⟨M', a1, a2, a3, a4⟩ := ih (i + 1) M1 b2 (by omega)
    refine ⟨M', b1.tr a1, a2, ?_, ?_⟩
    · rw [a3, b3, mi_lp_S]; rfl
    · rw [fM_digest_L54_eq, ix_4_154, Option.bind_some, hv, Nat.zero_add, wf.1, if_neg (nI_ge (by omega) (by omega)), show fM_digest_L66 (nI i) 0 M = _ from b4, a4]
theorem cM_dg117 (wf : pv_wf n m T v) {i : Nat} (hi : i < m) : ∀ (c k : Nat) (M : mM), Mst M d v st rf tx t → k + c = 10 → ∃ M', frM M M' ∧ Mst M' d v st rf tx t ∧ M'.2.2 = (31 * mi_lp (dg_f fun k => v (54 + 10 * i + k)) c k M.2.2) + (pv_o0 v i).toInt64 ∧ fM_digest_L117 (nI i) (nI k) M = fM_digest_L105 (nI (i + 1)) M' := by
  have hm := wf.2.2.2.1
  intro c
  induction c with
  | zero =>
    intro k M h hk
    have hv : M.1 30 0 = v := h.2.1
    refine ⟨mi_setL M ((31 * M.2.2) + (pv_o0 v i).toInt64), frM.sl, h.sl _, rfl, ?_⟩
    rw [fM_digest_L117_eq, if_pos (show (10 : Int32) ≤ nI k from lit_le (k := 10) (by omega) (by omega)), show fM_offersOf (nI i) 0 M = _ from cM_offersOf hv wf (f := 0) hi (by decide), Option.bind_some]
    simp only
    rw [fM_mix_eq, Option.bind_some, nI_1]
    rfl
  | succ c ih =>
    intro k M h hk
    have hv : M.1 30 0 = v := h.2.1
    obtain ⟨M', a1, a2, a3, a4⟩ := ih (k + 1) (mi_setL M ((31 * M.2.2) + (v (54 + 10 * i + k)).toInt64)) (h.sl _) (by omega)
    refine ⟨M', frM.sl.tr a1, a2, a3, ?_⟩
    rw [fM_digest_L117_eq, if_neg (show ¬ (10 : Int32) ≤ nI k from nI_ge (b := 10) (by omega) (by decide)), cM_linkAt hv (by omega) (by omega), Option.bind_some]
    simp only
    rw [fM_mix_eq, Option.bind_some, nI_1]
    exact a4
theorem cM_dg105 (wf : pv_wf n m T v) : ∀ (c i : Nat) (M : mM), Mst M d v st rf tx t → i + c = m → ∃ M' w', frM M M' ∧ (∀ p, p < 154 → w' p = v p) ∧ Mst M' d w' st rf tx t ∧ fM_digest_L105 (nI i) M = some ((31 * mi_lp (pv_dl v) c i M.2.2) + (pv_stl n m 31 0 v).toInt64, M') := by
  have hm := wf.2.2.2.1
  intro c
  induction c with
  | zero =>
    intro i M h hi
    have hv : M.1 30 0 = v := h.2.1
    obtain ⟨M1, w', b1, b2, b3, b4, b5⟩ := cM_settled h wf
    refine ⟨mi_setL M1 ((31 * M1.2.2) + (pv_stl n m 31 0 v).toInt64), w', b1.tr frM.sl, b2, b3.sl _, ?_⟩
    rw [fM_digest_L105_eq, ix_5_154, Option.bind_some, hv, Nat.zero_add, wf.2.1, if_pos (nI_le (by omega) (by omega)), b5, Option.bind_some]
    simp only
    rw [fM_mix_eq, Option.bind_some]
    show some ((31 * M1.2.2) + _, _) = _
    rw [b4]; rfl
  | succ c ih =>
    intro i M h hi
    have hv : M.1 30 0 = v := h.2.1
    obtain ⟨M1, b1, b2, b3, b4⟩ := cM_dg117 wf (i := i) (by omega) 10 0 M h (by omega)
    obtain ⟨M', w', a1, a2, a3, a4⟩ := ih (i + 1) M1 b2 (by omega)
    refine ⟨M', w', b1.tr a1, a2, a3, ?_⟩
    rw [fM_digest_L105_eq, ix_5_154, Option.bind_some, hv, Nat.zero_add, wf.2.1, if_neg (nI_ge (by omega) (by omega)), show fM_digest_L117 (nI i) 0 M = _ from b4, a4, b3, mi_lp_S]
    rfl
theorem cM_digest {M : mM} (h : Mst M d v st rf tx t) (wf : pv_wf n m T v) : ∃ M' w', frM M M' ∧ (∀ p, p < 154 → w' p = v p) ∧ Mst M' d w' st rf tx t ∧ fM_digest M = some (pv_dig n m d t rf v, M') := by
  obtain ⟨M1, a1, a2, a3, a4⟩ := cM_dg9 5 0 (mi_setL M 2792) (h.sl _) (by omega)
  obtain ⟨M2, b1, b2, b3, b4⟩ := cM_dg31 wf 10 0 M1 a2 (by omega)
  obtain ⟨M3, c1, c2, c3, c4⟩ := cM_dg54 wf n 0 M2 b2 (by omega)
  obtain ⟨M4, w', e1, e2, e3, e4⟩ := cM_dg105 wf m 0 M3 c2 (by omega)
  refine ⟨M4, w', frM.sl.tr (a1.tr (b1.tr (c1.tr e1))), e2, e3, ?_⟩
  rw [fM_digest_eq, show fM_digest_L9 0 (mi_setL M 2792) = _ from a4, show fM_digest_L31 0 M1 = _ from b4, show fM_digest_L54 0 M2 = _ from c4, show fM_digest_L105 0 M3 = _ from e4, c3, b3, a3]
  rfl
end DM
theorem ok_digest : Okc fX_digest fM_digest := by
  intro T M hT ⟨d, t, n, m, v, w, sv, sw, rf, tx, ty, h⟩
  obtain ⟨h1, h2, h3, h4, h5, h6, h7, h8⟩ := id h
  obtain ⟨M1, a1, a2, a3⟩ := cX_digest h1 h3 h5
  obtain ⟨M2, w', b1, b2, b3, b4⟩ := cM_digest (h4.fr a1) (h6.wf h5)
  refine ⟨_, M1, M2, a3, ?_, h.get a2 b1 b3 b2, a1, b1⟩
  rw [b4, cg_dig h5 h6]
