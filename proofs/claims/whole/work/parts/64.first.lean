/-! THE FIRST MEMORY: what the constructors leave is a memory of the small machine -/
def nbo (j : Nat) : Nat := match j with
  | 0 => 1
  | 1 => 29
  | k + 2 => 101 + 28 * k
def mi_of : mHd → Nat
  | (0, j, _) => nbo j
  | (11, j, _) => nbo j + 1
  | (12, j, i) => nbo j + 2 + i
  | (13, j, _) => nbo j + 8
  | (14, j, i) => nbo j + 9 + i
  | (15, j, _) => nbo j + 19
  | (16, j, _) => nbo j + 20
  | (17, j, i) => nbo j + 21 + i
  | (18, j, _) => nbo j + 27
  | (2, _, _) => 0
  | (10, _, _) => 57
  | (1, _, _) => 58
  | (20, _, _) => 59
  | (21, _, i) => 60 + i
  | (22, _, _) => 100
  | (3, _, _) => 241
  | (t, _, _) => 212 + t
def mi_ad (z b lr mr : Nat) (h : mHd) : Nat := if h.1 = 50 then b else if h.1 = 60 then lr else if h.1 = 61 then mr else z + mi_of h
theorem mi_of_nd : (mi_hs.map mi_of).Nodup := by decide +kernel
theorem mi_ad_hs {z b lr mr : Nat} {h : mHd} (hh : h ∈ mi_hs) : mi_ad z b lr mr h = z + mi_of h := by
  have h0 := (mi_inv hh).2.2.2.2.2
  unfold mi_ad
  rw [if_neg (fun e => h0 (Or.inl e)), if_neg (fun e => h0 (Or.inr (Or.inl e))), if_neg (fun e => h0 (Or.inr (Or.inr e)))]
theorem mi_ad_inj (z b lr mr : Nat) : mi_inj (mi_ad z b lr mr) := by
  intro h hh h' hh' e
  rw [mi_ad_hs hh, mi_ad_hs hh'] at e
  have e2 : mi_of h = mi_of h' := by omega
  obtain ⟨i, hi⟩ := List.getElem?_of_mem hh
  obtain ⟨k, hk⟩ := List.getElem?_of_mem hh'
  have m1 : (mi_hs.map mi_of)[i]? = some (mi_of h) := by rw [List.getElem?_map, hi]; rfl
  have m2 : (mi_hs.map mi_of)[k]? = some (mi_of h') := by rw [List.getElem?_map, hk]; rfl
  have hik : i = k := (List.getElem?_inj (List.getElem?_eq_some_iff.mp m1).1 mi_of_nd).mp (by rw [m1, m2, e2])
  subst hik
  exact Option.some.inj (hi.symm.trans hk)
theorem mi_ad_A {z b lr mr a : Nat} (ha : a < z) : ¬ mi_A (mi_ad z b lr mr) a := by
  rintro ⟨h, hh, e⟩
  rw [mi_ad_hs hh] at e
  omega
def mem0 (L : Nat) (xs : Nat → Int32) : mM := (fun t _ p => if t = 0 ∨ t = 30 then (if p = 0 then 16 else if p = 1 then 8 else if p = 2 then 5 else 0) else if t = 50 then xs p else if t = 51 then Int32.ofNat L else 0, fun k => k, 0)
theorem mem0_0 {L : Nat} {xs : Nat → Int32} {t j p : Nat} (h1 : t < 50) (h2 : 3 ≤ p ∨ ¬ (t = 0 ∨ t = 30)) : (mem0 L xs).1 t j p = 0 := by
  show (if t = 0 ∨ t = 30 then (if p = 0 then (16 : Int32) else if p = 1 then 8 else if p = 2 then 5 else 0) else if t = 50 then xs p else if t = 51 then Int32.ofNat L else 0) = 0
  by_cases h : t = 0 ∨ t = 30
  · rw [if_pos h]
    have h3 : 3 ≤ p := h2.resolve_right (fun z => z h)
    rw [if_neg (by omega), if_neg (by omega), if_neg (by omega)]
  · rw [if_neg h, if_neg (by omega), if_neg (by omega)]
theorem mem0_3 {L : Nat} {xs : Nat → Int32} {t j : Nat} (h : t = 0 ∨ t = 30) : (fun k => if k < 3 then (mem0 L xs).1 t j (0 + k) else 0) = upd (upd (upd (fun _ => (0 : Int32)) 0 16) 1 8) 2 5 := by
  funext k
  by_cases k0 : k = 0
  · subst k0
    show (if t = 0 ∨ t = 30 then (16 : Int32) else _) = 16
    rw [if_pos h]
  by_cases k1 : k = 1
  · subst k1
    show (if t = 0 ∨ t = 30 then (8 : Int32) else _) = 8
    rw [if_pos h]
  by_cases k2 : k = 2
  · subst k2
    show (if t = 0 ∨ t = 30 then (5 : Int32) else _) = 5
    rw [if_pos h]
  · rw [if_neg (by omega), upd_ne k2, upd_ne k1, upd_ne k0]
def Hs (D : va_G) (b : Nat) (es : List va_E) (H : Heap) : Prop := ∀ (k : Nat) (x : va_E), es[k]? = some x → va_at D vwCl (b + k, x) H
section HS
variable {D : va_G} {b : Nat} {P T : List va_E} {x : va_E} {H : Heap}
theorem Hs.l (h : Hs D b (P ++ T) H) : Hs D b P H := fun k y hy => h k y (by rw [List.getElem?_append_left (List.getElem?_eq_some_iff.mp hy).1]; exact hy)
theorem Hs.r (h : Hs D b (P ++ T) H) : Hs D (b + P.length) T H := fun k y hy => by
  have := h (P.length + k) y (by rw [List.getElem?_append_right (by omega), Nat.add_sub_cancel_left]; exact hy)
  rw [← Nat.add_assoc] at this
  exact this
theorem Hs.h (h : Hs D b (x :: T) H) : va_at D vwCl (b, x) H := h 0 x rfl
theorem Hs.t (h : Hs D b (x :: T) H) : Hs D (b + 1) T H := fun k y hy => by
  have := h (k + 1) y hy
  rw [show b + (k + 1) = b + 1 + k by omega] at this
  exact this
theorem Hs.nets {cI cII cN : ClassId} {a : Nat} : ∀ i, Hs D b (x2_n cI cII cN a i) H → ∀ k, k < i → Hs D (b + 28 * k) (ee_0 cI cII cN (a + 101 + 28 * k)) H
  | 0, _, k, hk => by omega
  | i + 1, h, k, hk => by
    have h2 : Hs D b (x2_n cI cII cN a i ++ ee_0 cI cII cN (a + 101 + 28 * i)) H := h
    by_cases e : k = i
    · subst e
      have := h2.r
      rw [x2_nl] at this
      exact this
    · exact Hs.nets i h2.l k (by omega)
end HS
section NE
variable {D : va_G} {z b lr mr L : Nat} {xs : Nat → Int32} {cI cII cN : ClassId} {H : Heap}
theorem ec_z {ad : mHd → Nat} {h : mHd} {t j o n : Nat} (hs : mi_sl h = some (t, j, o, n)) (h1 : t < 50) (h2 : 3 ≤ o ∨ ¬ (t = 0 ∨ t = 30)) : mi_ec ad cI cII cN (mem0 L xs) h = .inl (cI, n, .inl fun _ => 0) := by
  rw [mi_ec_arr hs]
  refine congrArg (fun z => (.inl (cI, n, .inl z) : va_E)) (funext fun k => ?_)
  by_cases hk : k < n
  · rw [if_pos hk, mem0_0 h1 (h2.imp (fun q => by omega) id)]
  · rw [if_neg hk]
theorem net_at {j : Nat} (h : Hs D (z + nbo j) (ee_0 cI cII cN (z + nbo j)) H) : ∀ g, g ∈ [(0, j, 0), (11, j, 0), (13, j, 0), (15, j, 0), (16, j, 0), (18, j, 0)] ++ ((List.range 6).map (fun i => (12, j, i)) ++ ((List.range 10).map (fun i => (14, j, i)) ++ (List.range 6).map (fun i => ((17, j, i) : mHd)))) → va_at D vwCl (mi_ad z b lr mr g, mi_ec (mi_ad z b lr mr) cI cII cN (mem0 L xs) g) H := by
  intro g hg
  have go : ∀ (k : Nat) (x : va_E), (ee_0 cI cII cN (z + nbo j))[k]? = some x → mi_ad z b lr mr g = z + nbo j + k → mi_ec (mi_ad z b lr mr) cI cII cN (mem0 L xs) g = x → va_at D vwCl (mi_ad z b lr mr g, mi_ec (mi_ad z b lr mr) cI cII cN (mem0 L xs) g) H := fun k x hk e1 e2 => by
    rw [e1, e2]
    exact h k x hk
  have out : ∀ (N o : Nat) (f : Nat → mHd), (∀ i, i < N → mi_ad z b lr mr (f i) = z + nbo j + o + 1 + i) → (.inl (cII, N, .inr (.inr (.inr (.inr fun k => if k < N then some (mi_ad z b lr mr (f k)) else none)))) : va_E) = mi_out cII N (z + nbo j + o) := fun N o f hf => by
    unfold mi_out
    refine congrArg (fun q => (.inl (cII, N, .inr (.inr (.inr (.inr q)))) : va_E)) (funext fun k => ?_)
    by_cases hk : k < N
    · rw [if_pos hk, if_pos hk, hf k hk]
    · rw [if_neg hk, if_neg hk]
  rcases List.mem_append.mp hg with hg | hg
  · simp only [List.mem_cons, List.not_mem_nil, or_false] at hg
    rcases hg with rfl | rfl | rfl | rfl | rfl | rfl
    · refine go 0 _ rfl rfl ?_
      show (.inr (0, [.ref (z + (nbo j + 1)), .ref (z + (nbo j + 8)), .ref (z + (nbo j + 19)), .int 0, .int 0, .int 0, .ref (z + (nbo j + 20)), .ref (z + (nbo j + 27))]) : va_E) = _
      simp only [← Nat.add_assoc]
    · exact go 1 _ rfl (by show z + (nbo j + 1) = _; omega) (out 6 1 (fun k => (12, j, k)) (fun i hi => by show z + (nbo j + 2 + i) = _; omega))
    · exact go 8 _ rfl (by show z + (nbo j + 8) = _; omega) (out 10 8 (fun k => (14, j, k)) (fun i hi => by show z + (nbo j + 9 + i) = _; omega))
    · refine go 19 _ rfl (by show z + (nbo j + 19) = _; omega) ?_
      rw [mi_ec_arr (h := (15, j, 0)) rfl, mem0_3 (Or.inl rfl)]
    · exact go 20 _ rfl (by show z + (nbo j + 20) = _; omega) (out 6 20 (fun k => (17, j, k)) (fun i hi => by show z + (nbo j + 21 + i) = _; omega))
    · exact go 27 _ rfl (by show z + (nbo j + 27) = _; omega) (ec_z rfl (by decide) (Or.inr (by decide)))
  · rcases List.mem_append.mp hg with hg | hg
    · obtain ⟨i, hi, rfl⟩ := List.mem_map.mp hg
      have hi := List.mem_range.mp hi
      refine go (2 + i) (.inl (cI, 8, .inl fun _ => 0)) ?_ (by show z + (nbo j + 2 + i) = _; omega) (ec_z rfl (by decide) (Or.inl (by omega)))
      rcases (show i = 0 ∨ i = 1 ∨ i = 2 ∨ i = 3 ∨ i = 4 ∨ i = 5 by omega) with rfl | rfl | rfl | rfl | rfl | rfl <;> rfl
    · rcases List.mem_append.mp hg with hg | hg
      · obtain ⟨i, hi, rfl⟩ := List.mem_map.mp hg
        have hi := List.mem_range.mp hi
        refine go (9 + i) (.inl (cI, 10, .inl fun _ => 0)) ?_ (by show z + (nbo j + 9 + i) = _; omega) (ec_z rfl (by decide) (Or.inl (by omega)))
        rcases (show i = 0 ∨ i = 1 ∨ i = 2 ∨ i = 3 ∨ i = 4 ∨ i = 5 ∨ i = 6 ∨ i = 7 ∨ i = 8 ∨ i = 9 by omega) with rfl | rfl | rfl | rfl | rfl | rfl | rfl | rfl | rfl | rfl <;> rfl
      · obtain ⟨i, hi, rfl⟩ := List.mem_map.mp hg
        have hi := List.mem_range.mp hi
        refine go (21 + i) (.inl (cI, 4, .inl fun _ => 0)) ?_ (by show z + (nbo j + 21 + i) = _; omega) (ec_z rfl (by decide) (Or.inr (by decide)))
        rcases (show i = 0 ∨ i = 1 ∨ i = 2 ∨ i = 3 ∨ i = 4 ∨ i = 5 by omega) with rfl | rfl | rfl | rfl | rfl | rfl <;> rfl
theorem ee1_row (a : Nat) : ∀ i, i < 40 → (ee_1 cI cII cN a)[2 + i]? = some (.inl (cI, 4, .inl fun _ => 0)) := by
  intro i hi
  rw [Nat.add_comm 2 i]
  show (List.replicate 40 (.inl (cI, 4, .inl fun _ => 0) : va_E) ++ [.inl (cI, 120, .inl fun _ => 0)])[i]? = _
  rw [List.getElem?_append_left (by rw [List.length_replicate]; exact hi), List.getElem?_replicate, if_pos hi]
theorem first_at (hw : Hs D z (ee_2 cI cII cN z ++ ee_3 cI cII cN (z + 241)) H) : ∀ h, h ∈ mi_hs → va_at D vwCl (mi_ad z b lr mr h, mi_ec (mi_ad z b lr mr) cI cII cN (mem0 L xs) h) H := by
  have h2 : Hs D z (x2_p cI cII cN z ++ x2_s cN z 5 :: (ee_1 cI cII cN (z + 58) ++ x2_n cI cII cN z 5)) H := hw.l
  have h3 : Hs D (z + 241) (ee_3 cI cII cN (z + 241)) H := by
    have := hw.r
    rw [show (ee_2 cI cII cN z).length = 241 from x2_el cI cII cN z 5] at this
    exact this
  have hp : Hs D z (x2_o z :: (ee_0 cI cII cN (z + 1) ++ ee_0 cI cII cN (z + 29))) H := h2.l
  have hq : Hs D (z + 57) (x2_s cN z 5 :: (ee_1 cI cII cN (z + 58) ++ x2_n cI cII cN z 5)) H := h2.r
  have hn0 : Hs D (z + 1) (ee_0 cI cII cN (z + 1)) H := hp.t.l
  have hn1 : Hs D (z + 29) (ee_0 cI cII cN (z + 29)) H := by
    have := hp.t.r
    rw [show z + 1 + (ee_0 cI cII cN (z + 1)).length = z + 29 from rfl] at this
    exact this
  have hs1 : Hs D (z + 58) (ee_1 cI cII cN (z + 58)) H := hq.t.l
  have hnn : Hs D (z + 101) (x2_n cI cII cN z 5) H := by
    have := hq.t.r
    rw [show z + 57 + 1 + (ee_1 cI cII cN (z + 58)).length = z + 101 from rfl] at this
    exact this
  have hnet : ∀ j, j < 7 → Hs D (z + nbo j) (ee_0 cI cII cN (z + nbo j)) H := by
    intro j hj
    rcases j with _ | _ | k
    · exact hn0
    · exact hn1
    · have := Hs.nets 5 hnn k (by omega)
      rw [show z + nbo (k + 2) = z + 101 + 28 * k by show z + (101 + 28 * k) = _; omega]
      exact this
  intro h hh
  unfold mi_hs at hh
  rcases List.mem_append.mp hh with hh | hh
  · simp only [List.mem_cons, List.not_mem_nil, or_false] at hh
    rcases hh with rfl | rfl | rfl | rfl | rfl | rfl
    · exact hs1 0 _ rfl
    · exact hp 0 _ rfl
    · exact h3 0 _ rfl
    · have e : mi_ec (mi_ad z b lr mr) cI cII cN (mem0 L xs) (10, 0, 0) = x2_s cN z 5 := by
        unfold x2_s
        refine congrArg (fun q => (.inl (cN, 5, .inr (.inr (.inr (.inr q)))) : va_E)) (funext fun k => ?_)
        by_cases hk : k < 5
        · rw [if_pos hk, if_pos hk]
          show some (z + nbo (2 + k)) = _
          rw [Nat.add_comm 2 k]
          show some (z + (101 + 28 * k)) = _
          rw [Nat.add_assoc]
        · rw [if_neg hk, if_neg hk]
      rw [e]
      exact hq.h
    · have e : mi_ec (mi_ad z b lr mr) cI cII cN (mem0 L xs) (20, 0, 0) = mi_out cII 40 (z + 58 + 1) := by
        unfold mi_out
        refine congrArg (fun q => (.inl (cII, 40, .inr (.inr (.inr (.inr q)))) : va_E)) (funext fun k => ?_)
        by_cases hk : k < 40
        · rw [if_pos hk, if_pos hk]
          show some (z + (60 + k)) = _
          rw [show z + (60 + k) = z + 58 + 1 + 1 + k by omega]
        · rw [if_neg hk, if_neg hk]
      rw [e]
      exact hs1 1 _ rfl
    · rw [ec_z (h := (22, 0, 0)) rfl (by decide) (Or.inr (by decide))]
      exact hs1 42 _ rfl
  · rcases List.mem_append.mp hh with hh | hh
    · obtain ⟨k, hk, rfl⟩ := List.mem_map.mp hh
      have hk := List.mem_range.mp hk
      rcases (show k = 0 ∨ k = 1 ∨ k = 2 ∨ k = 3 ∨ k = 4 ∨ k = 5 ∨ k = 6 ∨ k = 7 ∨ k = 8 ∨ k = 9 ∨ k = 10 by omega) with rfl | rfl | rfl | rfl | rfl | rfl | rfl | rfl | rfl | rfl | rfl
      · have e : mi_ec (mi_ad z b lr mr) cI cII cN (mem0 L xs) (30, 0, 0) = .inl (cI, 154, .inl (upd (upd (upd (fun _ => 0) 0 16) 1 8) 2 5)) := by
          rw [mi_ec_arr (h := (30, 0, 0)) rfl, ← mem0_3 (L := L) (xs := xs) (t := 30) (j := 0) (Or.inr rfl)]
          refine congrArg (fun q => (.inl (cI, 154, .inl q) : va_E)) (funext fun k => ?_)
          by_cases hk : k < 3
          · rw [if_pos hk, if_pos (by omega)]
          · rw [if_neg hk]
            by_cases hk2 : k < 154
            · rw [if_pos hk2, mem0_0 (by decide) (Or.inl (by omega))]
            · rw [if_neg hk2]
        rw [e]
        exact h3 1 _ rfl
      · rw [ec_z (h := (31, 0, 0)) rfl (by decide) (Or.inr (by decide))]; exact h3 2 _ rfl
      · rw [ec_z (h := (32, 0, 0)) rfl (by decide) (Or.inr (by decide))]; exact h3 3 _ rfl
      · rw [ec_z (h := (33, 0, 0)) rfl (by decide) (Or.inr (by decide))]; exact h3 4 _ rfl
      · rw [ec_z (h := (34, 0, 0)) rfl (by decide) (Or.inr (by decide))]; exact h3 5 _ rfl
      · rw [ec_z (h := (35, 0, 0)) rfl (by decide) (Or.inr (by decide))]; exact h3 6 _ rfl
      · rw [ec_z (h := (36, 0, 0)) rfl (by decide) (Or.inr (by decide))]; exact h3 7 _ rfl
      · rw [ec_z (h := (37, 0, 0)) rfl (by decide) (Or.inr (by decide))]; exact h3 8 _ rfl
      · rw [ec_z (h := (38, 0, 0)) rfl (by decide) (Or.inr (by decide))]; exact h3 9 _ rfl
      · rw [ec_z (h := (39, 0, 0)) rfl (by decide) (Or.inr (by decide))]; exact h3 10 _ rfl
      · rw [ec_z (h := (40, 0, 0)) rfl (by decide) (Or.inr (by decide))]; exact h3 11 _ rfl
    · rcases List.mem_append.mp hh with hh | hh
      · obtain ⟨i, hi, rfl⟩ := List.mem_map.mp hh
        have hi := List.mem_range.mp hi
        rw [ec_z (h := (21, 0, i)) rfl (by decide) (Or.inr (by decide)), show mi_ad z b lr mr (21, 0, i) = z + 58 + (2 + i) by show z + (60 + i) = _; omega]
        exact hs1 (2 + i) _ (ee1_row (z + 58) i hi)
      · obtain ⟨j, hj, hh⟩ := List.mem_flatMap.mp hh
        exact net_at (hnet j (List.mem_range.mp hj)) h hh
end NE
theorem first_Rl (L : Nat) (xs : Nat → Int32) : Rl 0 (mem0 L xs) := by
  refine ⟨0, 0, 0, 0, (mem0 L xs).1 0 0, (mem0 L xs).1 30 0, fun _ _ => 0, fun _ _ => 0, fun _ => 0, (mem0 L xs).1 4 0, (mem0 L xs).1 38 0, by decide, by decide, ?_, ?_, ?_, fun p _ => rfl, fun k hk => absurd hk (Nat.not_lt_zero k), fun k hk => absurd hk (Nat.not_lt_zero k)⟩
  · exact ⟨⟨fun a ha => ha, fun a _ b _ e => e⟩, rfl, rfl, fun k hk => absurd hk (Nat.not_lt_zero k), fun i _ => rfl, rfl, rfl⟩
  · exact ⟨rfl, rfl, fun k hk => absurd hk (Nat.not_lt_zero k), fun i _ => rfl, rfl, rfl⟩
  · exact ⟨rfl, rfl, by decide, by decide, ⟨show 4 ≤ (16 : Int32).toInt by decide, show (16 : Int32).toInt ≤ 64 by decide⟩, ⟨show 0 ≤ (8 : Int32).toInt by decide, show (8 : Int32).toInt ≤ 128 by decide⟩, ⟨show 1 ≤ (5 : Int32).toInt by decide, show (5 : Int32).toInt ≤ 9 by decide⟩, fun i hi => absurd hi (Nat.not_lt_zero i), fun i hi => absurd hi (Nat.not_lt_zero i)⟩
