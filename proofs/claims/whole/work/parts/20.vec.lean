/-! PURE: vectors of numbers; one put in another's place; small facts of ints -/
abbrev pV : Type := Nat → Int32
def mi_pv (M : mM) (t j : Nat) (v : pV) : mM := (mi_up M.1 t j v, M.2.1, M.2.2)
theorem mi_set_pv (M : mM) (t j p : Nat) (x : Int32) : mi_set M t j p x = mi_pv M t j (upd (M.1 t j) p x) := rfl
theorem mi_pv_at (M : mM) (t j : Nat) (v : pV) : (mi_pv M t j v).1 t j = v := by
  unfold mi_pv mi_up
  simp
theorem mi_pv_ne {M : mM} {t j t' j' : Nat} {v : pV} (h : ¬ (t' = t ∧ j' = j)) : (mi_pv M t j v).1 t' j' = M.1 t' j' := by
  unfold mi_pv mi_up
  simp only [h, if_false]
theorem mi_pv_net {M : mM} {t j t' j' : Nat} {v : pV} (h : t' ≠ t) : (mi_pv M t j v).1 t' j' = M.1 t' j' := mi_pv_ne fun q => h q.1
theorem mi_pv_nej {M : mM} {t j t' j' : Nat} {v : pV} (h : j' ≠ j) : (mi_pv M t j v).1 t' j' = M.1 t' j' := mi_pv_ne fun q => h q.2
theorem mi_pv_S (M : mM) (t j : Nat) (v : pV) : (mi_pv M t j v).2 = M.2 := rfl
theorem mi_pv_pv (M : mM) (t j : Nat) (v w : pV) : mi_pv (mi_pv M t j v) t j w = mi_pv M t j w := by
  unfold mi_pv mi_up
  refine congrArg (fun D => ((D, M.2.1, M.2.2) : mM)) (funext fun a => funext fun b => ?_)
  by_cases h : a = t ∧ b = j <;> simp only [h, if_false, if_true, and_self]
theorem mi_pv_self (M : mM) (t j : Nat) : mi_pv M t j (M.1 t j) = M := by
  unfold mi_pv mi_up
  have : (fun a b => if a = t ∧ b = j then M.1 t j else M.1 a b) = M.1 := funext fun a => funext fun b => by
    by_cases h : a = t ∧ b = j
    · simp only [h, and_self, if_true]
    · simp only [h, if_false]
  rw [this]
theorem mi_pv_comm {M : mM} {t j t' j' : Nat} {v w : pV} (h : ¬ (t' = t ∧ j' = j)) : mi_pv (mi_pv M t j v) t' j' w = mi_pv (mi_pv M t' j' w) t j v := by
  unfold mi_pv mi_up
  refine congrArg (fun D => ((D, M.2.1, M.2.2) : mM)) (funext fun a => funext fun b => ?_)
  show (if a = t' ∧ b = j' then w else if a = t ∧ b = j then v else M.1 a b) = if a = t ∧ b = j then v else if a = t' ∧ b = j' then w else M.1 a b
  by_cases h1 : a = t ∧ b = j
  · by_cases h2 : a = t' ∧ b = j'
    · exact absurd ⟨h2.1.symm.trans h1.1, h2.2.symm.trans h1.2⟩ h
    · rw [if_neg h2, if_pos h1, if_pos h1]
  · by_cases h2 : a = t' ∧ b = j'
    · rw [if_pos h2, if_neg h1, if_pos h2]
    · rw [if_neg h2, if_neg h1, if_neg h1, if_neg h2]
-- places
theorem mi_ix_n {k n : Nat} (h : k < n) (hn : n < 2 ^ 31) : mi_ix (nI k) n = some k := by
  unfold mi_ix
  rw [if_neg (nI_in h hn), nI_clamp (by omega)]
theorem mi_ix_of {i : Int32} {k n : Nat} (hi : i = nI k) (h : k < n) (hn : n < 2 ^ 31) : mi_ix i n = some k := by rw [hi]; exact mi_ix_n h hn
theorem ix_0_10 : mi_ix 0 10 = some 0 := mi_ix_n (by decide) (by decide)
theorem ix_1_10 : mi_ix 1 10 = some 1 := mi_ix_n (by decide) (by decide)
theorem ix_2_10 : mi_ix 2 10 = some 2 := mi_ix_n (by decide) (by decide)
theorem ix_3_10 : mi_ix 3 10 = some 3 := mi_ix_n (by decide) (by decide)
theorem ix_4_10 : mi_ix 4 10 = some 4 := mi_ix_n (by decide) (by decide)
theorem ix_5_10 : mi_ix 5 10 = some 5 := mi_ix_n (by decide) (by decide)
theorem ix_6_10 : mi_ix 6 10 = some 6 := mi_ix_n (by decide) (by decide)
theorem ix_7_10 : mi_ix 7 10 = some 7 := mi_ix_n (by decide) (by decide)
theorem ix_8_10 : mi_ix 8 10 = some 8 := mi_ix_n (by decide) (by decide)
theorem ix_9_10 : mi_ix 9 10 = some 9 := mi_ix_n (by decide) (by decide)
theorem ix_0_8 : mi_ix 0 8 = some 0 := mi_ix_n (by decide) (by decide)
theorem ix_1_8 : mi_ix 1 8 = some 1 := mi_ix_n (by decide) (by decide)
theorem ix_2_8 : mi_ix 2 8 = some 2 := mi_ix_n (by decide) (by decide)
theorem ix_3_8 : mi_ix 3 8 = some 3 := mi_ix_n (by decide) (by decide)
theorem ix_4_8 : mi_ix 4 8 = some 4 := mi_ix_n (by decide) (by decide)
theorem ix_5_8 : mi_ix 5 8 = some 5 := mi_ix_n (by decide) (by decide)
theorem ix_6_8 : mi_ix 6 8 = some 6 := mi_ix_n (by decide) (by decide)
theorem ix_7_8 : mi_ix 7 8 = some 7 := mi_ix_n (by decide) (by decide)
theorem ix_0_3 : mi_ix 0 3 = some 0 := mi_ix_n (by decide) (by decide)
theorem ix_1_3 : mi_ix 1 3 = some 1 := mi_ix_n (by decide) (by decide)
theorem ix_2_3 : mi_ix 2 3 = some 2 := mi_ix_n (by decide) (by decide)
theorem ix_0_4 : mi_ix 0 4 = some 0 := mi_ix_n (by decide) (by decide)
theorem ix_1_4 : mi_ix 1 4 = some 1 := mi_ix_n (by decide) (by decide)
theorem ix_2_4 : mi_ix 2 4 = some 2 := mi_ix_n (by decide) (by decide)
theorem ix_3_4 : mi_ix 3 4 = some 3 := mi_ix_n (by decide) (by decide)
theorem ix_0_5 : mi_ix 0 5 = some 0 := mi_ix_n (by decide) (by decide)
theorem ix_4_5 : mi_ix 4 5 = some 4 := mi_ix_n (by decide) (by decide)
theorem ix_0_154 : mi_ix 0 154 = some 0 := mi_ix_n (by decide) (by decide)
theorem ix_1_154 : mi_ix 1 154 = some 1 := mi_ix_n (by decide) (by decide)
theorem ix_2_154 : mi_ix 2 154 = some 2 := mi_ix_n (by decide) (by decide)
theorem ix_3_154 : mi_ix 3 154 = some 3 := mi_ix_n (by decide) (by decide)
theorem ix_4_154 : mi_ix 4 154 = some 4 := mi_ix_n (by decide) (by decide)
theorem ix_5_154 : mi_ix 5 154 = some 5 := mi_ix_n (by decide) (by decide)
theorem pn_ix {i w : Nat} (hi : i < 6) (hw : w < 8) : mi_ix ((6 + (8 * nI i)) + nI w) 154 = some (6 + 8 * i + w) := by
  have e : (6 : Int32) + 8 * nI i + nI w = nI (6 + 8 * i + w) := by
    rw [show (8 : Int32) = nI 8 from rfl, show (6 : Int32) = nI 6 from rfl, pk_mul, nI_add, nI_add]
  rw [e]
  exact mi_ix_n (by omega) (by decide)
theorem pl_ix {i w : Nat} (hi : i < 10) (hw : w < 10) : mi_ix ((54 + (10 * nI i)) + nI w) 154 = some (54 + 10 * i + w) := by
  have e : (54 : Int32) + 10 * nI i + nI w = nI (54 + 10 * i + w) := by
    rw [show (10 : Int32) = nI 10 from rfl, show (54 : Int32) = nI 54 from rfl, pk_mul, nI_add, nI_add]
  rw [e]
  exact mi_ix_n (by omega) (by decide)
-- ints
theorem i_lt (a b : Int32) : a < b ↔ a.toInt < b.toInt := Int32.lt_iff_toInt_lt
theorem i_le (a b : Int32) : a ≤ b ↔ a.toInt ≤ b.toInt := Int32.le_iff_toInt_le
theorem i_eq (a b : Int32) : a = b ↔ a.toInt = b.toInt := Int32.toInt_inj.symm
theorem i_add {a b : Int32} (h1 : -2147483648 ≤ a.toInt + b.toInt) (h2 : a.toInt + b.toInt < 2147483648) : (a + b).toInt = a.toInt + b.toInt := by
  rw [Int32.toInt_add]
  exact Int.bmod_eq_of_le (by omega) (by omega)
theorem i_sub {a b : Int32} (h1 : -2147483648 ≤ a.toInt - b.toInt) (h2 : a.toInt - b.toInt < 2147483648) : (a - b).toInt = a.toInt - b.toInt := by
  rw [Int32.toInt_sub]
  exact Int.bmod_eq_of_le (by omega) (by omega)
theorem i_mul {a b : Int32} (h1 : -2147483648 ≤ a.toInt * b.toInt) (h2 : a.toInt * b.toInt < 2147483648) : (a * b).toInt = a.toInt * b.toInt := by
  rw [Int32.toInt_mul]
  exact Int.bmod_eq_of_le (by omega) (by omega)
theorem i_neg {a : Int32} (h1 : -2147483648 < a.toInt) : (-a).toInt = -a.toInt := by
  rw [Int32.toInt_neg]
  have := a.toInt_lt
  exact Int.bmod_eq_of_le (by omega) (by omega)
theorem i_nI {n : Nat} (h : n < 2147483648) : (nI n).toInt = n := nI_toInt (by omega)
theorem nI_ext {a b : Nat} (ha : a < 2147483648) (hb : b < 2147483648) (h : nI a = nI b) : a = b := (nI_eq (by omega) (by omega)).mp h
/-- a counter below a bound -/
theorem nI_lt2 {x : Int32} {n : Nat} (hn : n < 2147483648) (h0 : ¬ x < 0) (h : ¬ nI n ≤ x) : ∃ k, k < n ∧ x = nI k := by
  rcases pk_ix x (n := n) (by omega) with q | q | q
  · exact absurd q h0
  · exact absurd q h
  · exact q
theorem nI_nneg (k : Nat) (h : k < 2147483648) : ¬ nI k < 0 := nI_pos (by omega)
theorem nI_nNONE (k : Nat) (h : k < 2147483648) : ¬ nI k = -1001 := fun e => by
  have := congrArg Int32.toInt e
  rw [i_nI h] at this
  have : ((-1001 : Int32)).toInt = -1001 := by decide
  omega
theorem nI_clp (k : Nat) (h : k < 2147483648) : (nI k).toNatClampNeg = k := nI_clamp (by omega)
theorem upd_same (f : pV) (k : Nat) (x : Int32) : upd f k x k = x := by simp [upd]
theorem upd_ne {f : pV} {k j : Nat} {x : Int32} (h : j ≠ k) : upd f k x j = f j := by simp [upd, h]
theorem upd_upd (f : pV) (k : Nat) (x y : Int32) : upd (upd f k x) k y = upd f k y := funext fun j => by
  by_cases h : j = k <;> simp [upd, h]
/-- c steps from i on -/
def mi_lp {α : Type} (f : Nat → α → α) : Nat → Nat → α → α
  | 0, _, a => a
  | c + 1, i, a => mi_lp f c (i + 1) (f i a)
