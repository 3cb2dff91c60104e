/-! PURE: one tick -/
def pv_s (v : pV) (i : Nat) : Int32 := v (6 + 8 * i + 6) + v (6 + 8 * i + 2)
def pv_beat (i : Nat) (v : pV) : pV := upd (upd v (6 + 8 * i + 7) (8 + pv_s v i / 100)) (6 + 8 * i + 6) (pv_s v i - pv_s v i / 100 * 100)
def pv_to (v : pV) (l : Nat) : Nat := (v (54 + 10 * l + 1)).toNatClampNeg
def pv_f0 (v : pV) (l : Nat) : Int32 := v (54 + 10 * l + 4) + v (6 + 8 * pv_fr v l + 7) - v (6 + 8 * pv_to v l + 7)
def pv_low (u : pV) (l : Nat) (x : Int32) : pV := upd (upd u (54 + 10 * l + 4) x) (54 + 10 * l + 7) (if x < upd u (54 + 10 * l + 4) x (54 + 10 * l + 7) then x else upd u (54 + 10 * l + 4) x (54 + 10 * l + 7))
def pv_high (u : pV) (l : Nat) (x : Int32) : pV := upd (pv_low u l x) (54 + 10 * l + 8) (if pv_low u l x (54 + 10 * l + 8) < x then x else pv_low u l x (54 + 10 * l + 8))
def pv_bey (u : pV) (l : Nat) (f x : Int32) : pV := if (if 0 ≤ x - f then x - f else 0 - (x - f)) ≤ pv_high u l x 1 then pv_high u l x else upd (pv_high u l x) (54 + 10 * l + 9) (pv_high u l x (54 + 10 * l + 9) + 1)
/-- a link written and read: the vector, and how many frames slipped -/
def pv_slip (l : Nat) (v : pV) : pV × Int32 := if pv_f0 v l ≤ 2 * v 0 then (if 0 ≤ pv_f0 v l then (pv_bey v l (v 0) (pv_f0 v l), 0) else (pv_bey (upd v (54 + 10 * l + 6) (v (54 + 10 * l + 6) + 1)) l (v 0) (pv_f0 v l + v 0), 1)) else (pv_bey (upd v (54 + 10 * l + 5) (v (54 + 10 * l + 5) + 1)) l (v 0) (pv_f0 v l - v 0), 1)
def pv_slips (l : Nat) (q : pV × Int32) : pV × Int32 := ((pv_slip l q.1).1, q.2 + (pv_slip l q.1).2)
def pv_tick (n m : Nat) (v : pV) : pV × Int32 := (upd (mi_lp pv_slips m 0 (mi_lp pv_beat n 0 v, 0)).1 3 ((mi_lp pv_slips m 0 (mi_lp pv_beat n 0 v, 0)).1 3 + 1), (mi_lp pv_slips m 0 (mi_lp pv_beat n 0 v, 0)).2)
def pv_bits (n : Nat) (v : pV) : Prop := ∀ i, i < n → 7 ≤ (v (6 + 8 * i + 7)).toInt ∧ (v (6 + 8 * i + 7)).toInt ≤ 9
theorem upd_comm {f : pV} {a b : Nat} {x y : Int32} (h : a ≠ b) : upd (upd f a x) b y = upd (upd f b y) a x := funext fun p => by
  by_cases e1 : p = a
  · rw [e1, upd_ne h, upd_same, upd_same]
  · by_cases e2 : p = b
    · rw [e2, upd_same, upd_ne (Ne.symm h), upd_same]
    · rw [upd_ne e2, upd_ne e1, upd_ne e1, upd_ne e2]
theorem upd_id (f : pV) (a : Nat) : upd f a (f a) = f := funext fun p => by
  by_cases e : p = a
  · rw [e, upd_same]
  · rw [upd_ne e]
theorem i_lit (s : Int32) (lo : Nat) (h1 : -(lo : Int) ≤ s.toInt) (h2 : s.toInt ≤ lo) : ∃ k : Nat, k < 2 * lo + 1 ∧ s = Int32.ofInt ((k : Int) - lo) := by
  refine ⟨(s.toInt + lo).toNat, by omega, ?_⟩
  rw [show (((s.toInt + lo).toNat : Nat) : Int) - lo = s.toInt by omega, Int32.ofInt_toInt]
theorem beat_fin : ∀ k : Nat, k < 399 → ((Int32.ofInt ((k : Int) - 199) < 100 ∧ -100 < Int32.ofInt ((k : Int) - 199) ∧ Int32.ofInt ((k : Int) - 199) / 100 = 0) ∨ ((100 ≤ Int32.ofInt ((k : Int) - 199) ∧ Int32.ofInt ((k : Int) - 199) / 100 = 1) ∨ (Int32.ofInt ((k : Int) - 199) ≤ -100 ∧ Int32.ofInt ((k : Int) - 199) / 100 = -1))) := by decide +kernel
theorem beat_div {s : Int32} (h1 : -199 ≤ s.toInt) (h2 : s.toInt ≤ 199) : (s < 100 ∧ -100 < s ∧ s / 100 = 0) ∨ ((100 ≤ s ∧ s / 100 = 1) ∨ (s ≤ -100 ∧ s / 100 = -1)) := by
  obtain ⟨k, hk, e⟩ := i_lit s 199 h1 h2
  rw [e]
  exact beat_fin k hk
theorem k100 : (100 : Int32).toInt = 100 := by decide
theorem km100 : (-100 : Int32).toInt = -100 := by decide
section PC
variable {n m T : Nat} {v : pV} {j : Nat} {M : mM}
theorem pv_wf.s (wf : pv_wf n m T v) {i : Nat} (hi : i < n) : -198 ≤ (pv_s v i).toInt ∧ (pv_s v i).toInt ≤ 198 := by
  obtain ⟨-, -, ⟨a1, a2⟩, -, -, -, ⟨b1, b2⟩⟩ := wf.2.2.2.2.2.2.2.1 i hi
  unfold pv_s
  rw [i_add (by omega) (by omega)]
  omega
theorem pv_wf.to (wf : pv_wf n m T v) {l : Nat} (hl : l < m) : pv_to v l < n ∧ v (54 + 10 * l + 1) = nI (pv_to v l) := by
  obtain ⟨-, ⟨a, ha, e⟩, -⟩ := wf.2.2.2.2.2.2.2.2 l hl
  have hn := wf.2.2.1
  have : pv_to v l = a := by unfold pv_to; rw [e, nI_clp a (by omega)]
  rw [this]
  exact ⟨ha, e⟩
-- the reference's beat
theorem cM_beats (hv : M.1 30 0 = v) (wf : pv_wf n m T v) {i : Nat} (hi : i < n) : fM_beats (nI i) M = some (mi_pv M 30 0 (pv_beat i v)) := by
  have hn := wf.2.2.1
  obtain ⟨b1, b2⟩ := wf.s hi
  rw [fM_beats_eq]
  rw [show fM_nodeAt (nI i) 6 M = _ from cM_nodeAt hv (w := 6) (by omega) (by decide)]
  simp only [Option.bind_some]
  rw [show fM_nodeAt (nI i) 2 M = _ from cM_nodeAt hv (w := 2) (by omega) (by decide)]
  simp only [Option.bind_some]
  rw [show v (6 + 8 * i + 6) + v (6 + 8 * i + 2) = pv_s v i from rfl]
  have fin : ∀ x y : Int32, -100 < x → x = pv_s v i - pv_s v i / 100 * 100 → y = 8 + pv_s v i / 100 → fM_beats_L33 (nI i) x y M = some (mi_pv M 30 0 (pv_beat i v)) := by
    intro x y h hx hy
    rw [fM_beats_L33_eq, if_pos h]
    rw [show fM_putNode (nI i) 6 x M = _ from cM_putNode hv (w := 6) (by omega) (by decide) x]
    simp only [Option.bind_some]
    rw [show fM_putNode (nI i) 7 y (mi_pv M 30 0 _) = _ from cM_putNode (mi_pv_at _ _ _ _) (w := 7) (by omega) (by decide) y]
    simp only [Option.bind_some, mi_pv_pv]
    rw [upd_comm (by omega), hx, hy]
    rfl
  rw [fM_beats_L18_eq]
  rcases beat_div (s := pv_s v i) (by omega) (by omega) with ⟨h1, h2, h3⟩ | ⟨h1, h3⟩ | ⟨h1, h3⟩
  · rw [if_pos h1]
    exact fin _ _ h2 (by rw [h3, show (0 : Int32) * 100 = 0 from rfl, Int32.sub_zero]) (by rw [h3]; rfl)
  · rw [if_neg (Int32.not_lt.mpr h1), fM_beats_L18_eq]
    have e : (pv_s v i + -100).toInt = (pv_s v i).toInt - 100 := by rw [i_add (by rw [km100]; omega) (by rw [km100]; omega), km100]; omega
    rw [i_le, k100] at h1
    rw [if_pos (by rw [i_lt, e, k100]; omega)]
    exact fin _ _ (by rw [i_lt, e, km100]; omega) (by rw [h3, i_eq, e, show (1 : Int32) * 100 = 100 from rfl, i_sub (by rw [k100]; omega) (by rw [k100]; omega), k100]) (by rw [h3])
  · rw [i_le, km100] at h1
    rw [if_pos (by rw [i_lt, k100]; omega), fM_beats_L33_eq, if_neg (by rw [i_lt, km100]; omega)]
    have e : (pv_s v i + 100).toInt = (pv_s v i).toInt + 100 := by rw [i_add (by rw [k100]; omega) (by rw [k100]; omega), k100]
    exact fin _ _ (by rw [i_lt, e, km100]; omega) (by rw [h3, i_eq, e, show (-1 : Int32) * 100 = -100 from rfl, i_sub (by rw [km100]; omega) (by rw [km100]; omega), km100]; omega) (by rw [h3])
-- the class's
theorem cN_beats : ∀ (c i : Nat) (v : pV) (M : mM), M.1 0 j = v → v 4 = nI n → n ≤ 6 → i + c = n → fN_tickOnce_L2 j (nI i) M = fN_tickOnce_L68 j 0 0 (mi_pv M 0 j (mi_lp pv_beat c i v)) := by
  intro c
  induction c with
  | zero =>
    intro i v M hv h4 hn hi
    rw [fN_tickOnce_L2_eq, hv, h4, if_pos (nI_le (by omega) (by omega))]
    rw [show mi_lp pv_beat 0 i v = v from rfl, ← hv, mi_pv_self]
  | succ c ih =>
    intro i v M hv h4 hn hi
    rw [fN_tickOnce_L2_eq, hv, h4, if_neg (nI_ge (by omega) (by omega))]
    simp only [mi_ix_n (by omega : i < 6) (by decide), ix_6_8, ix_2_8, ix_7_8, Option.bind_some, mi_set_pv, mi_pv_at, mi_pv_pv, hv, nI_1]
    rw [show upd (upd v (6 + 8 * i + 7) (8 + (v (6 + 8 * i + 6) + v (6 + 8 * i + 2)) / 100)) (6 + 8 * i + 6) (v (6 + 8 * i + 6) + v (6 + 8 * i + 2) - (v (6 + 8 * i + 6) + v (6 + 8 * i + 2)) / 100 * 100) = pv_beat i v from rfl]
    rw [ih (i + 1) (pv_beat i v) _ (mi_pv_at _ _ _ _) (by unfold pv_beat; rw [upd_ne (by omega), upd_ne (by omega)]; exact h4) hn (by omega), mi_pv_pv]
    rfl
theorem cN_moveStore (hv : M.1 0 j = v) (wf : pv_wf n m T v) {l : Nat} (hl : l < m) : fN_moveStore j l M = some ((pv_slip l v).2, mi_pv M 0 j (pv_slip l v).1) := by
  have hn := wf.2.2.1
  obtain ⟨a1, a2⟩ := wf.fr hl
  obtain ⟨b1, b2⟩ := wf.to hl
  have h81 : ∀ (x c : Int32) (u : pV) (M' : mM), M'.1 0 j = u → fN_moveStore_L81 j l (v 0) x c M' = some (c, mi_pv M' 0 j (pv_bey u l (v 0) x)) := by
    intro x c u M' hu
    rw [fN_moveStore_L81_eq]
    simp only [ix_4_10, ix_7_10, ix_8_10, ix_9_10, ix_1_3, Option.bind_some, mi_set_pv, mi_pv_at, mi_pv_pv, hu, Nat.zero_add]
    show (if (if 0 ≤ x - v 0 then x - v 0 else 0 - (x - v 0)) ≤ pv_high u l x 1 then some (c, mi_pv M' 0 j (pv_high u l x)) else some (c, mi_pv M' 0 j (upd (pv_high u l x) (54 + 10 * l + 9) (pv_high u l x (54 + 10 * l + 9) + 1)))) = _
    unfold pv_bey
    by_cases h : (if 0 ≤ x - v 0 then x - v 0 else 0 - (x - v 0)) ≤ pv_high u l x 1
    · rw [if_pos h, if_pos h]
    · rw [if_neg h, if_neg h]
  rw [fN_moveStore_eq]
  simp only [ix_0_3, ix_4_10, ix_0_10, ix_1_10, ix_7_8, ix_5_10, ix_6_10, Option.bind_some, hv, a2, b2, mi_ix_n (by omega : pv_fr v l < 6) (by decide), mi_ix_n (by omega : pv_to v l < 6) (by decide), Nat.zero_add]
  show (if pv_f0 v l ≤ 2 * v 0 then (if 0 ≤ pv_f0 v l then fN_moveStore_L81 j l (v 0) (pv_f0 v l) 0 M else fN_moveStore_L81 j l (v 0) (pv_f0 v l + v 0) 1 (mi_set M 0 j (54 + 10 * l + 6) (v (54 + 10 * l + 6) + 1))) else fN_moveStore_L81 j l (v 0) (pv_f0 v l - v 0) 1 (mi_set M 0 j (54 + 10 * l + 5) (v (54 + 10 * l + 5) + 1))) = _
  unfold pv_slip
  by_cases h1 : pv_f0 v l ≤ 2 * v 0
  · rw [if_pos h1, if_pos h1]
    by_cases h2 : 0 ≤ pv_f0 v l
    · rw [if_pos h2, if_pos h2, h81 _ _ v M hv]
    · rw [if_neg h2, if_neg h2, mi_set_pv, hv, h81 _ _ _ _ (mi_pv_at _ _ _ _), mi_pv_pv]
  · rw [if_neg h1, if_neg h1, mi_set_pv, hv, h81 _ _ _ _ (mi_pv_at _ _ _ _), mi_pv_pv]
end PC
