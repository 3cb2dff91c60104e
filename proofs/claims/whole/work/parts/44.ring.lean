/-! PURE: chain and ring -/
def pc6 (q : Nat) : Nat := ((List.range 6).filter (fun a => q.testBit a)).length
theorem msk_0 : ∀ q : Nat, q < 64 → ∀ a : Nat, a < 6 → ((nI q &&& (1 <<< (nI a &&& 31))) = 0 ↔ q.testBit a = false) := by decide
theorem msk_1 : ∀ q : Nat, q < 64 → ∀ a : Nat, a < 6 → (((nI q >>> (nI a &&& 31)) &&& 1) = 0 ↔ q.testBit a = false) := by decide
theorem msk_2 : ∀ q : Nat, q < 64 → ∀ a : Nat, a < 6 → (nI q ||| (1 <<< (nI a &&& 31))) = nI (q ||| (1 <<< a)) := by decide
theorem msk_3 : ∀ q : Nat, q < 64 → ∀ a : Nat, a < 6 → (q ||| (1 <<< a)) < 64 := by decide
theorem msk_4 : ∀ q : Nat, q < 64 → ∀ a : Nat, a < 6 → (q.testBit a = false → pc6 (q ||| (1 <<< a)) = pc6 q + 1) := by decide
theorem msk_5 : ∀ q : Nat, q < 64 → ∀ a : Nat, a < 6 → (pc6 q = 6 → q.testBit a = true) := by decide
theorem msk_6 : ∀ q : Nat, q < 64 → ∀ a : Nat, a < 6 → (∀ b : Nat, b < 6 → ((q ||| (1 <<< a)).testBit b = true ↔ (q.testBit b = true ∨ b = a))) := by decide
theorem msk_fin (q : Nat) (hq : q < 64) (a : Nat) (ha : a < 6) : ((nI q &&& (1 <<< (nI a &&& 31))) = 0 ↔ q.testBit a = false) ∧ (((nI q >>> (nI a &&& 31)) &&& 1) = 0 ↔ q.testBit a = false) ∧ (nI q ||| (1 <<< (nI a &&& 31))) = nI (q ||| (1 <<< a)) ∧ (q ||| (1 <<< a)) < 64 ∧ (q.testBit a = false → pc6 (q ||| (1 <<< a)) = pc6 q + 1) ∧ (pc6 q = 6 → q.testBit a = true) ∧ (∀ b : Nat, b < 6 → ((q ||| (1 <<< a)).testBit b = true ↔ (q.testBit b = true ∨ b = a))) :=
  ⟨msk_0 q hq a ha, msk_1 q hq a ha, msk_2 q hq a ha, msk_3 q hq a ha, msk_4 q hq a ha, msk_5 q hq a ha, msk_6 q hq a ha⟩
def pv_fol (v : pV) : Nat → Nat → Int32 → List Int32 × Bool
  | 0, _, x => ([], decide (¬ x = -1001))
  | c + 1, q, x => if x = -1001 then ([], false) else if q.testBit x.toNatClampNeg = true then ([], true) else (x :: (pv_fol v c (q ||| (1 <<< x.toNatClampNeg)) (pv_src v x.toNatClampNeg)).1, (pv_fol v c (q ||| (1 <<< x.toNatClampNeg)) (pv_src v x.toNatClampNeg)).2)
theorem pv_fol_S (v : pV) (c q : Nat) (x : Int32) : pv_fol v (c + 1) q x = if x = -1001 then ([], false) else if q.testBit x.toNatClampNeg = true then ([], true) else (x :: (pv_fol v c (q ||| (1 <<< x.toNatClampNeg)) (pv_src v x.toNatClampNeg)).1, (pv_fol v c (q ||| (1 <<< x.toNatClampNeg)) (pv_src v x.toNatClampNeg)).2) := rfl
theorem cg_fol {n m T : Nat} {v w : pV} (wf : pv_wf n m T v) (h : pv_eq n m v w) : ∀ (c q : Nat) (x : Int32), (x = -1001 ∨ ∃ a, a < n ∧ x = nI a) → pv_fol v c q x = pv_fol w c q x := by
  intro c
  induction c with
  | zero => intro q x _; rfl
  | succ c ih =>
    intro q x hx
    rw [pv_fol_S, pv_fol_S]
    by_cases e : x = -1001
    · rw [if_pos e, if_pos e]
    · rw [if_neg e, if_neg e]
      obtain ⟨a, ha, rfl⟩ := hx.resolve_left e
      have hn := wf.2.2.1
      rw [nI_clp a (by omega), cg_src wf h ha, ih _ _ ((h.wf wf).src ha)]
theorem fol_len (v : pV) : ∀ (c q : Nat) (x : Int32), (pv_fol v c q x).1.length ≤ c := by
  intro c
  induction c with
  | zero => intro q x; exact Nat.le_refl _
  | succ c ih =>
    intro q x
    rw [pv_fol_S]
    split
    · exact Nat.zero_le _
    · split
      · exact Nat.zero_le _
      · exact Nat.succ_le_succ (ih _ _)
theorem cN_chainL {n m T j : Nat} {v : pV} {M : mM} (hv : M.1 0 j = v) (wf : pv_wf n m T v) {t : Nat} (ht : t < 2147483648) : ∀ (c k q : Nat) (x : Int32), k + c = 6 → q < 64 → pc6 q = k → k ≤ t → (x = -1001 ∨ ∃ a, a < n ∧ x = nI a) → fN_chainNode_L8 j (nI t) x (nI q) (nI k) M = some ((pv_fol v c q x).1.getD (t - k) (-1001), M) := by
  obtain ⟨h4, h5, hn, hm, -⟩ := id wf
  intro c
  induction c with
  | zero =>
    intro k q x hk hq hp htk hx
    rw [fN_chainNode_L8_eq, show k = 6 by omega, if_pos (by decide)]
    rfl
  | succ c ih =>
    intro k q x hk hq hp htk hx
    rw [fN_chainNode_L8_eq, if_neg (show ¬ (6 : Int32) ≤ nI k from fun e => by rw [i_le, i_nI (by omega), show (6 : Int32).toInt = 6 by decide] at e; omega), cN_hasNode hv h4 hn, Option.bind_some, pv_fol_S]
    simp only
    by_cases e : x = -1001
    · rw [if_pos e, pv_bf (by rw [e]; unfold pv_isn; simp), if_pos rfl]
      rfl
    · rw [if_neg e]
      obtain ⟨a, ha, rfl⟩ := hx.resolve_left e
      obtain ⟨m1, m2, m3, m4, m5, m6, m7⟩ := msk_fin q hq a (by omega)
      rw [pv_bt (pv_isn_nI ha (by omega)), if_neg (by decide), nI_clp a (by omega)]
      by_cases tb : q.testBit a = true
      · rw [if_pos tb, if_pos (fun z => by rw [m1.mp z] at tb; exact absurd tb (by decide))]
        rfl
      · rw [if_neg tb, if_neg (fun z => z (m1.mpr (by simpa using tb)))]
        by_cases kt : k = t
        · rw [if_neg (fun z => z (by rw [kt])), kt, Nat.sub_self]
          rfl
        · rw [if_pos (fun z => kt (nI_ext (by omega) ht z)), cN_nodeAhead hv wf ha, Option.bind_some, nI_1]
          simp only
          rw [m3, ih (k + 1) _ _ (by omega) m4 (by rw [m5 (by simpa using tb)]; omega) (by omega) (wf.src ha), show t - k = (t - (k + 1)) + 1 by omega]
          rfl
