/-! PURE: one look: the class's, and the reference's -/
def pv_lf (m : Nat) (v : pV) (i w : Nat) : Int32 := if w = 3 then pv_take m v i else if pv_take m v i = -1001 then (if w = 0 then v (6 + 8 * i + 4) else if w = 1 then 0 else v (6 + 8 * i + 5)) else pv_of v (pv_take m v i).toNatClampNeg w
/-- the first c of the numbers that a look writes are written -/
def pv_lkp (n m : Nat) (v : pV) (c : Nat) : pV := fun p => if 6 ≤ p ∧ p < 6 + 8 * n ∧ (p - 6) % 8 < 4 ∧ 4 * ((p - 6) / 8) + (p - 6) % 8 < c then pv_lf m v ((p - 6) / 8) ((p - 6) % 8) else v p
def pv_chp (m : Nat) (v : pV) (c : Nat) : Bool := (List.range c).any (fun k => decide (v (6 + 8 * (k / 4) + k % 4) ≠ pv_lf m v (k / 4) (k % 4)))
def pv_b (x : Bool) : Int32 := if x = true then 1 else 0
theorem pv_b0 (x : Bool) : pv_b x = 0 ↔ x = false := by cases x <;> decide
theorem pv_b01 (x : Bool) : pv_b x = 0 ∨ pv_b x = 1 := by cases x <;> decide
theorem pv_lkp_0 {n m : Nat} {v : pV} : pv_lkp n m v 0 = v := funext fun p => by unfold pv_lkp; rw [if_neg (by omega)]
theorem pv_lkp_lo {n m c p : Nat} {v : pV} (h : p < 6) : pv_lkp n m v c p = v p := by unfold pv_lkp; rw [if_neg (by omega)]
theorem pv_lkp_hi {n m c p : Nat} {v : pV} (hn : n ≤ 6) (h : 54 ≤ p) : pv_lkp n m v c p = v p := by unfold pv_lkp; rw [if_neg (by omega)]
theorem pv_lkp_own {n m c i w : Nat} {v : pV} (hw : 4 ≤ w) (hw8 : w < 8) : pv_lkp n m v c (6 + 8 * i + w) = v (6 + 8 * i + w) := by unfold pv_lkp; rw [if_neg (by omega)]
theorem pv_lkp_ge {n m c i w : Nat} {v : pV} (hw8 : w < 8) (h : c ≤ 4 * i + w) : pv_lkp n m v c (6 + 8 * i + w) = v (6 + 8 * i + w) := by unfold pv_lkp; rw [if_neg (by omega)]
theorem pv_lkp_lt {n m c i w : Nat} {v : pV} (hi : i < n) (hw : w < 4) (h : 4 * i + w < c) : pv_lkp n m v c (6 + 8 * i + w) = pv_lf m v i w := by
  unfold pv_lkp
  rw [if_pos (by omega), show (6 + 8 * i + w - 6) / 8 = i by omega, show (6 + 8 * i + w - 6) % 8 = w by omega]
theorem pv_lkp_S {n m i w : Nat} {v : pV} (hi : i < n) (hw : w < 4) : upd (pv_lkp n m v (4 * i + w)) (6 + 8 * i + w) (pv_lf m v i w) = pv_lkp n m v (4 * i + w + 1) := by
  funext p
  by_cases e : p = 6 + 8 * i + w
  · subst e
    rw [upd_same, pv_lkp_lt hi hw (by omega)]
  · rw [upd_ne e]
    unfold pv_lkp
    by_cases h : 6 ≤ p ∧ p < 6 + 8 * n ∧ (p - 6) % 8 < 4 ∧ 4 * ((p - 6) / 8) + (p - 6) % 8 < 4 * i + w
    · rw [if_pos h, if_pos (by omega)]
    · rw [if_neg h, if_neg (by omega)]
theorem pv_chp_S {m i w : Nat} {v : pV} (hw : w < 4) : pv_chp m v (4 * i + w + 1) = (pv_chp m v (4 * i + w) || decide (v (6 + 8 * i + w) ≠ pv_lf m v i w)) := by
  unfold pv_chp
  rw [List.range_succ, List.any_append]
  simp only [List.any_cons, List.any_nil, Bool.or_false]
  rw [show (4 * i + w) / 4 = i by omega, show (4 * i + w) % 4 = w by omega]
section PC
variable {n m T : Nat} {v : pV} {j : Nat}
-- the class
theorem cN_keys (wf : pv_wf n m T v) : ∀ (c l : Nat) (M : mM), M.1 0 j = v → l + c = m → (∀ k, k < l → M.1 2 j k = pv_kv v k) → ∃ K : pV, (∀ k, k < m → K k = pv_kv v k) ∧ fN_lookOnce_L2 j (nI l) M = fN_lookOnce_L48 j 0 (mi_pv M 2 j K) := by
  have hm := wf.2.2.2.1
  intro c
  induction c with
  | zero =>
    intro l M hv hl hk
    refine ⟨M.1 2 j, fun k h => hk k (by omega), ?_⟩
    rw [fN_lookOnce_L2_eq, hv, wf.2.1, if_pos (nI_le (by omega) (by omega)), mi_pv_self]
  | succ c ih =>
    intro l M hv hl hk
    have hlm : l < m := by omega
    rw [fN_lookOnce_L2_eq, hv, wf.2.1, if_neg (nI_ge hlm (by omega)), cN_isOffering hv wf hlm]
    simp only [Option.bind_some, mi_ix_n (by omega : l < 10) (by decide), Nat.zero_add, nI_1]
    have key : ∀ x : Int32, x = pv_kv v l → ∃ K : pV, (∀ k, k < m → K k = pv_kv v k) ∧ fN_lookOnce_L2 j (nI (l + 1)) (mi_set M 2 j l x) = fN_lookOnce_L48 j 0 (mi_pv M 2 j K) := by
      intro x hx
      obtain ⟨K, h1, h2⟩ := ih (l + 1) (mi_set M 2 j l x) (by rw [mi_set_pv, mi_pv_net (by decide)]; exact hv) (by omega) (fun k hk' => by
        rw [mi_set_pv, mi_pv_at]
        by_cases e : k = l
        · rw [e, upd_same, hx]
        · rw [upd_ne e]; exact hk k (by omega))
      refine ⟨K, h1, ?_⟩
      rw [h2, mi_set_pv, mi_pv_pv]
    by_cases ho : pv_off v l = true
    · rw [if_pos ho, if_neg (by decide), cN_keyOf hv wf hlm]
      exact key _ (by unfold pv_kv; rw [if_pos ho])
    · rw [if_neg ho, if_pos rfl]
      exact key _ (by unfold pv_kv; rw [if_neg ho])
theorem cN_find {K : pV} {M : mM} (hv : M.1 0 j = v) (hK : M.1 2 j = K) (wf : pv_wf n m T v) (hk : ∀ l, l < m → K l = pv_kv v l) {i : Nat} (hi : i < n) : ∃ F : pV, (∀ w, w < 4 → F (4 * i + w) = pv_lf m v i w) ∧ (∀ p, p < 4 * i → F p = M.1 1 j p) ∧ fN_find j i (nI i) M = some (mi_pv M 1 j F) := by
  have hn := wf.2.2.1
  have hm := wf.2.2.2.1
  have t1 : ∀ w : pV, (mi_pv M 1 j w).1 0 j = v := fun w => by rw [mi_pv_net (by decide)]; exact hv
  rw [fN_find_eq, cN_bestLink hv hK wf hk hi]
  simp only [Option.bind_some, ix_3_4]
  have h4 : ∀ (x3 x0 x1 x2 : Int32) (f : pV), (∀ w, w < 4 → upd (upd (upd (upd f (4 * i + 3) x3) (4 * i + 0) x0) (4 * i + 1) x1) (4 * i + 2) x2 (4 * i + w) = if w = 3 then x3 else if w = 0 then x0 else if w = 1 then x1 else x2) ∧ ∀ p, p < 4 * i → upd (upd (upd (upd f (4 * i + 3) x3) (4 * i + 0) x0) (4 * i + 1) x1) (4 * i + 2) x2 p = f p := by
    intro x3 x0 x1 x2 f
    refine ⟨fun w hw => ?_, fun p hp => ?_⟩
    · have : w = 0 ∨ w = 1 ∨ w = 2 ∨ w = 3 := by omega
      rcases this with rfl | rfl | rfl | rfl <;> simp [upd]
    · rw [upd_ne (by omega), upd_ne (by omega), upd_ne (by omega), upd_ne (by omega)]
  rcases pv_take_ok (m := m) (v := v) (i := i) with e | ⟨k, hkm, e⟩
  · rw [e, if_neg (fun q => q rfl)]
    simp only [Option.bind_some, mi_ix_n (by omega : i < 6) (by decide), ix_4_8, ix_0_4, ix_1_4, ix_5_8, ix_2_4, mi_set_pv, mi_pv_at, mi_pv_pv, t1]
    obtain ⟨a, b⟩ := h4 (-1001) (v (6 + 8 * i + 4)) 0 (v (6 + 8 * i + 5)) (M.1 1 j)
    refine ⟨_, fun w hw => ?_, b, rfl⟩
    rw [a w hw]
    unfold pv_lf
    rw [e, if_pos rfl]
  · obtain ⟨ha, ea⟩ := wf.fr hkm
    rw [e, if_pos (nI_nNONE k (by omega))]
    simp only [Option.bind_some, mi_ix_n (by omega : k < 10) (by decide), ix_0_10, ix_0_8, ix_0_4, ix_1_8, ix_1_4, ix_2_8, ix_2_4, mi_set_pv, mi_pv_at, mi_pv_pv, t1, ea, mi_ix_n (by omega : pv_fr v k < 6) (by decide)]
    obtain ⟨a, b⟩ := h4 (nI k) (v (6 + 8 * pv_fr v k + 0)) (v (6 + 8 * pv_fr v k + 1) + 1) (v (6 + 8 * pv_fr v k + 2)) (M.1 1 j)
    refine ⟨_, fun w hw => ?_, b, rfl⟩
    rw [a w hw]
    unfold pv_lf pv_of
    rw [e, if_neg (nI_nNONE k (by omega)), nI_clp k (by omega)]
    have : w = 0 ∨ w = 1 ∨ w = 2 ∨ w = 3 := by omega
    rcases this with rfl | rfl | rfl | rfl <;> simp
theorem cN_finds {K : pV} (wf : pv_wf n m T v) (hk : ∀ l, l < m → K l = pv_kv v l) : ∀ (c i : Nat) (M : mM), M.1 0 j = v → M.1 2 j = K → i + c = n → (∀ a, a < i → ∀ w, w < 4 → M.1 1 j (4 * a + w) = pv_lf m v a w) → ∃ F : pV, (∀ a, a < n → ∀ w, w < 4 → F (4 * a + w) = pv_lf m v a w) ∧ fN_lookOnce_L48 j (nI i) M = fN_lookOnce_L77 j 0 0 (mi_pv M 1 j F) := by
  have hn := wf.2.2.1
  intro c
  induction c with
  | zero =>
    intro i M hv hK hi hF
    refine ⟨M.1 1 j, fun a h => hF a (by omega), ?_⟩
    rw [fN_lookOnce_L48_eq, hv, wf.1, if_pos (nI_le (by omega) (by omega)), mi_pv_self]
  | succ c ih =>
    intro i M hv hK hi hF
    obtain ⟨F1, f1, f2, f3⟩ := cN_find hv hK wf hk (by omega : i < n)
    rw [fN_lookOnce_L48_eq, hv, wf.1, if_neg (nI_ge (by omega) (by omega)), mi_ix_n (by omega : i < 6) (by decide), Option.bind_some, f3, Option.bind_some, nI_1]
    obtain ⟨F, g1, g2⟩ := ih (i + 1) (mi_pv M 1 j F1) (by rw [mi_pv_net (by decide)]; exact hv) (by rw [mi_pv_net (by decide)]; exact hK) (by omega) (fun a ha w hw => by
      rw [mi_pv_at]
      by_cases e : a = i
      · rw [e]; exact f1 w hw
      · rw [f2 _ (by omega)]; exact hF a (by omega) w hw)
    exact ⟨F, g1, by rw [g2, mi_pv_pv]⟩
theorem cN_write_1 {F : pV} (wf : pv_wf n m T v) (hF : ∀ a, a < n → ∀ w, w < 4 → F (4 * a + w) = pv_lf m v a w) {i w : Nat} (hi : i < n) (hw : w < 4) {M : mM} (hv : M.1 0 j = pv_lkp n m v (4 * i + w)) (h1 : M.1 1 j = F) : fN_lookOnce_L87 j (pv_b (pv_chp m v (4 * i + w))) (nI i) (nI w) M = fN_lookOnce_L87 j (pv_b (pv_chp m v (4 * i + w + 1))) (nI i) (nI (w + 1)) (mi_pv M 0 j (pv_lkp n m v (4 * i + w + 1))) := by
  have hn := wf.2.2.1
  have h120 : ∀ s : Int32, fN_lookOnce_L120 j (nI i) (nI w) s M = fN_lookOnce_L87 j s (nI i) (nI (w + 1)) (mi_pv M 0 j (pv_lkp n m v (4 * i + w + 1))) := by
    intro s
    rw [fN_lookOnce_L120_eq]
    simp only [mi_ix_n (by omega : i < 6) (by decide), mi_ix_n (by omega : w < 4) (by decide), mi_ix_n (by omega : w < 8) (by decide), Option.bind_some, mi_set_pv, h1, hF i hi w hw, hv, nI_1, pv_lkp_S hi hw]
  rw [fN_lookOnce_L87_eq, if_neg (show ¬ (4 : Int32) ≤ nI w from nI_ge (a := w) (b := 4) hw (by decide)), fN_lookOnce_L115_eq, h120]
  simp only [mi_ix_n (by omega : i < 6) (by decide), mi_ix_n (by omega : w < 4) (by decide), mi_ix_n (by omega : w < 8) (by decide), Option.bind_some, h1, hF i hi w hw, hv, h120, pv_lkp_ge (n := n) (m := m) (v := v) (c := 4 * i + w) (i := i) (w := w) (by omega) (Nat.le_refl _), pv_chp_S (m := m) (v := v) (i := i) hw]
  cases hb : pv_chp m v (4 * i + w) with
  | true => rw [if_pos (by decide)]; rfl
  | false =>
    rw [if_neg (by decide)]
    by_cases e : v (6 + 8 * i + w) = pv_lf m v i w
    · rw [if_pos e]; simp [e, pv_b]
    · rw [if_neg e]; simp [e, pv_b]
theorem cN_writes {F : pV} (wf : pv_wf n m T v) (hF : ∀ a, a < n → ∀ w, w < 4 → F (4 * a + w) = pv_lf m v a w) : ∀ (c i : Nat) (M : mM), M.1 0 j = pv_lkp n m v (4 * i) → M.1 1 j = F → i + c = n → fN_lookOnce_L77 j (pv_b (pv_chp m v (4 * i))) (nI i) M = some (pv_b (pv_chp m v (4 * n)), mi_pv M 0 j (pv_lkp n m v (4 * n))) := by
  have hn := wf.2.2.1
  intro c
  induction c with
  | zero =>
    intro i M hv h1 hi
    have e : i = n := by omega
    subst e
    rw [fN_lookOnce_L77_eq, hv, pv_lkp_lo (by decide), wf.1, if_pos (nI_le (by omega) (by omega)), if_pos (pv_b01 _), ← hv, mi_pv_self]
  | succ c ih =>
    intro i M hv h1 hi
    rw [fN_lookOnce_L77_eq, hv, pv_lkp_lo (by decide), wf.1, if_neg (nI_ge (by omega) (by omega))]
    have k1 : ∀ {w : Nat} (u : pV), (mi_pv M 0 j u).1 1 j = F := fun u => by rw [mi_pv_net (by decide)]; exact h1
    rw [show (0 : Int32) = nI 0 from rfl, show 4 * i = 4 * i + 0 from rfl, cN_write_1 wf hF (by omega) (by decide) hv h1]
    rw [cN_write_1 (w := 1) wf hF (by omega) (by decide) (mi_pv_at _ _ _ _) (k1 (w := 0) _), mi_pv_pv]
    rw [cN_write_1 (w := 2) wf hF (by omega) (by decide) (mi_pv_at _ _ _ _) (k1 (w := 0) _), mi_pv_pv]
    rw [cN_write_1 (w := 3) wf hF (by omega) (by decide) (mi_pv_at _ _ _ _) (k1 (w := 0) _), mi_pv_pv]
    rw [fN_lookOnce_L87_eq, if_pos (by decide), nI_1, show 4 * i + 3 + 1 = 4 * (i + 1) by omega, ih (i + 1) _ (mi_pv_at _ _ _ _) (k1 (w := 0) _) (by omega), mi_pv_pv]
theorem cN_lookOnce (wf : pv_wf n m T v) {M : mM} (hv : M.1 0 j = v) : ∃ K F : pV, fN_lookOnce j M = some (pv_b (pv_chp m v (4 * n)), mi_pv (mi_pv (mi_pv M 2 j K) 1 j F) 0 j (pv_lkp n m v (4 * n))) := by
  obtain ⟨K, k1, k2⟩ := cN_keys wf m 0 M hv (by omega) (fun k h => by omega)
  have v1 : (mi_pv M 2 j K).1 0 j = v := by rw [mi_pv_net (by decide)]; exact hv
  obtain ⟨F, f1, f2⟩ := cN_finds wf k1 n 0 (mi_pv M 2 j K) v1 (mi_pv_at _ _ _ _) (by omega) (fun a h => by omega)
  refine ⟨K, F, ?_⟩
  rw [fN_lookOnce_eq, show (0 : Int32) = nI 0 from rfl, k2, show (0 : Int32) = nI 0 from rfl, f2]
  exact cN_writes wf f1 n 0 _ (by rw [mi_pv_net (by decide), v1, pv_lkp_0]) (mi_pv_at _ _ _ _) (by omega)
end PC
section PM
variable {n m T : Nat} {v : pV}
-- the reference
theorem p3_ix {i w : Nat} (hi : i < 6) (hw : w < 3) : mi_ix ((3 * nI i) + nI w) 30 = some (3 * i + w) := by
  have e : (3 : Int32) * nI i + nI w = nI (3 * i + w) := by
    rw [show (3 : Int32) = nI 3 from rfl, pk_mul, nI_add]
  rw [e]
  exact mi_ix_n (by omega) (by decide)
def pv_AB (m : Nat) (v : pV) (A B : pV) (i : Nat) : Prop := A i = pv_take m v i ∧ (¬ pv_take m v i = -1001 → ∀ w, w < 3 → B (3 * i + w) = pv_of v (pv_take m v i).toNatClampNeg w)
theorem cM_offers3 (wf : pv_wf n m T v) {i : Nat} (hi : i < n) : ∀ (c w : Nat) (M : mM), M.1 30 0 = v → M.1 34 0 i = pv_take m v i → w + c = 3 → (¬ pv_take m v i = -1001 → ∀ k, k < w → M.1 35 0 (3 * i + k) = pv_of v (pv_take m v i).toNatClampNeg k) → ∃ B : pV, pv_AB m v (M.1 34 0) B i ∧ (∀ p, p < 3 * i → B p = M.1 35 0 p) ∧ fM_look_L25 (nI i) (nI w) M = fM_look_L2 (nI (i + 1)) (mi_pv M 35 0 B) := by
  have hn := wf.2.2.1
  have hm := wf.2.2.2.1
  intro c
  induction c with
  | zero =>
    intro w M hv hA hw hB
    refine ⟨M.1 35 0, ⟨hA, fun h k hk => hB h k (by omega)⟩, fun _ _ => rfl, ?_⟩
    rw [fM_look_L25_eq, if_pos (show (3 : Int32) ≤ nI w from nI_le (a := 3) (by omega) (by omega)), nI_1, mi_pv_self]
  | succ c ih =>
    intro w M hv hA hw hB
    rw [fM_look_L25_eq, if_neg (show ¬ (3 : Int32) ≤ nI w from nI_ge (a := w) (b := 3) (by omega) (by decide))]
    simp only [mi_ix_n (by omega : i < 6) (by decide), Option.bind_some, Nat.zero_add, hA, nI_1]
    rcases pv_take_ok (m := m) (v := v) (i := i) with e | ⟨k, hkm, e⟩
    · rw [if_pos e]
      exact ⟨M.1 35 0, ⟨hA, fun h => absurd e h⟩, fun _ _ => rfl, by rw [mi_pv_self]⟩
    · rw [e, if_neg (nI_nNONE k (by omega)), cM_offerOf hv wf hkm (by omega : w < 3)]
      simp only [Option.bind_some, p3_ix (by omega : i < 6) (by omega : w < 3)]
      obtain ⟨B, b1, b2, b3⟩ := ih (w + 1) (mi_set M 35 0 (3 * i + w) (pv_of v k w)) (by rw [mi_set_pv, mi_pv_net (by decide)]; exact hv) (by rw [mi_set_pv, mi_pv_net (by decide)]; exact hA) (by omega) (fun h a ha => by
        rw [mi_set_pv, mi_pv_at, e, nI_clp k (by omega)]
        by_cases e2 : a = w
        · rw [e2, upd_same]
        · rw [upd_ne (by omega)]
          have := hB h a (by omega)
          rwa [e, nI_clp k (by omega)] at this)
      rw [mi_set_pv] at b1 b2 b3
      rw [mi_pv_net (by decide)] at b1
      refine ⟨B, b1, fun p hp => ?_, ?_⟩
      · rw [b2 p hp, mi_pv_at, upd_ne (by omega)]
      · rw [mi_set_pv, b3, mi_pv_pv]
theorem cM_takens (wf : pv_wf n m T v) : ∀ (c i : Nat) (M : mM), M.1 30 0 = v → i + c = n → (∀ a, a < i → pv_AB m v (M.1 34 0) (M.1 35 0) a) → ∃ A B : pV, (∀ a, a < n → pv_AB m v A B a) ∧ fM_look_L2 (nI i) M = fM_look_L79 0 0 (mi_pv (mi_pv M 34 0 A) 35 0 B) := by
  have hn := wf.2.2.1
  intro c
  induction c with
  | zero =>
    intro i M hv hi hab
    refine ⟨M.1 34 0, M.1 35 0, fun a h => hab a (by omega), ?_⟩
    rw [fM_look_L2_eq]
    simp only [ix_4_154, Option.bind_some, Nat.zero_add, hv, wf.1]
    rw [if_pos (nI_le (by omega) (by omega)), mi_pv_self, mi_pv_self]
  | succ c ih =>
    intro i M hv hi hab
    rw [fM_look_L2_eq]
    simp only [ix_4_154, Option.bind_some, Nat.zero_add, hv, wf.1]
    rw [if_neg (nI_ge (by omega) (by omega)), cM_takes hv wf (by omega : i < n)]
    simp only [Option.bind_some, mi_ix_n (by omega : i < 6) (by decide)]
    obtain ⟨B, b1, b2, b3⟩ := cM_offers3 wf (by omega : i < n) 3 0 (mi_set M 34 0 i (pv_take m v i)) (by rw [mi_set_pv, mi_pv_net (by decide)]; exact hv) (by rw [mi_set_pv, mi_pv_at, upd_same]) (by omega) (fun _ k hk => by omega)
    rw [show (0 : Int32) = nI 0 from rfl, b3]
    rw [mi_set_pv] at b1 b2 ⊢
    rw [mi_pv_at] at b1
    obtain ⟨A2, B2, c1, c2⟩ := ih (i + 1) (mi_pv (mi_pv M 34 0 (upd (M.1 34 0) i (pv_take m v i))) 35 0 B) (by rw [mi_pv_net (by decide), mi_pv_net (by decide)]; exact hv) (by omega) (fun a ha => by
      rw [mi_pv_at, mi_pv_net (by decide), mi_pv_at]
      by_cases e : a = i
      · rw [e]; exact b1
      · have h0 := hab a (by omega)
        refine ⟨by rw [upd_ne e]; exact h0.1, fun h w hw => ?_⟩
        rw [b2 _ (by omega), mi_pv_net (by decide)]
        exact h0.2 h w hw)
    refine ⟨A2, B2, c1, ?_⟩
    rw [c2]
    congr 1
    rw [mi_pv_comm (t := 35) (t' := 34) (by decide), mi_pv_pv, mi_pv_pv]
theorem cM_begin {M : mM} (hv : M.1 30 0 = v) {i : Nat} (hi : i < 6) : fM_begin (nI i) M = some (mi_pv M 30 0 (upd (upd (upd (upd v (6 + 8 * i + 0) (v (6 + 8 * i + 4))) (6 + 8 * i + 1) 0) (6 + 8 * i + 2) (v (6 + 8 * i + 5))) (6 + 8 * i + 3) (-1001))) := by
  rw [fM_begin_eq]
  rw [show fM_nodeAt (nI i) 4 M = _ from cM_nodeAt hv (w := 4) hi (by decide)]
  simp only [Option.bind_some]
  rw [show fM_putNode (nI i) 0 (v (6 + 8 * i + 4)) M = _ from cM_putNode hv (w := 0) hi (by decide) _]
  simp only [Option.bind_some]
  rw [show fM_putNode (nI i) 1 0 (mi_pv M 30 0 _) = _ from cM_putNode (mi_pv_at _ _ _ _) (w := 1) hi (by decide) _]
  simp only [Option.bind_some, mi_pv_pv]
  rw [show fM_nodeAt (nI i) 5 (mi_pv M 30 0 _) = _ from cM_nodeAt (mi_pv_at _ _ _ _) (w := 5) hi (by decide)]
  simp only [Option.bind_some]
  rw [upd_ne (by omega), upd_ne (by omega)]
  rw [show ∀ x, fM_putNode (nI i) 2 x (mi_pv M 30 0 _) = _ from fun x => cM_putNode (mi_pv_at _ _ _ _) (w := 2) hi (by decide) x]
  simp only [Option.bind_some, mi_pv_pv]
  rw [show ∀ x, fM_putNode (nI i) 3 x (mi_pv M 30 0 _) = _ from fun x => cM_putNode (mi_pv_at _ _ _ _) (w := 3) hi (by decide) x]
  simp only [Option.bind_some, mi_pv_pv]
end PM
