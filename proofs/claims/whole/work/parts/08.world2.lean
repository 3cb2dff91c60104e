
theorem mi_m0_0 : ∀ j, j < 7 → (0, j, 0) ∈ mi_hs := by decide +kernel
theorem mi_m0_11 : ∀ j, j < 7 → (11, j, 0) ∈ mi_hs := by decide +kernel
theorem mi_m0_13 : ∀ j, j < 7 → (13, j, 0) ∈ mi_hs := by decide +kernel
theorem mi_m0_15 : ∀ j, j < 7 → (15, j, 0) ∈ mi_hs := by decide +kernel
theorem mi_m0_16 : ∀ j, j < 7 → (16, j, 0) ∈ mi_hs := by decide +kernel
theorem mi_m0_18 : ∀ j, j < 7 → (18, j, 0) ∈ mi_hs := by decide +kernel
theorem mi_m0 (j : Nat) (h : j < 7) : ((0, j, 0) ∈ mi_hs ∧ (11, j, 0) ∈ mi_hs ∧ (13, j, 0) ∈ mi_hs ∧ (15, j, 0) ∈ mi_hs ∧ (16, j, 0) ∈ mi_hs ∧ (18, j, 0) ∈ mi_hs) := ⟨mi_m0_0 j h, mi_m0_11 j h, mi_m0_13 j h, mi_m0_15 j h, mi_m0_16 j h, mi_m0_18 j h⟩
theorem mi_m12a : ∀ j, j < 7 → ∀ i, i < 6 → (12, j, i) ∈ mi_hs := by decide +kernel
theorem mi_m17 : ∀ j, j < 7 → ∀ i, i < 6 → (17, j, i) ∈ mi_hs := by decide +kernel
theorem mi_m14 : ∀ j, j < 7 → ∀ i, i < 10 → (14, j, i) ∈ mi_hs := by decide +kernel
theorem mi_m21 : ∀ i, i < 40 → (21, 0, i) ∈ mi_hs := by decide +kernel
theorem mi_m30 : ∀ i, i < 11 → (30 + i, 0, 0) ∈ mi_hs := by decide +kernel
theorem mi_m1 : (1, 0, 0) ∈ mi_hs ∧ (2, 0, 0) ∈ mi_hs ∧ (3, 0, 0) ∈ mi_hs ∧ (10, 0, 0) ∈ mi_hs ∧ (20, 0, 0) ∈ mi_hs ∧ (22, 0, 0) ∈ mi_hs := by decide +kernel
theorem mi_inv0 : mi_hs.all (fun h => decide (h.2.1 < 7) && ((!decide (h.1 = 2) || decide (h = (2, 0, 0))) && ((!decide (h.1 = 3) || decide (h = (3, 0, 0))) && ((!decide (h.1 = 10) || decide (h = (10, 0, 0))) && ((!decide (h.1 = 0) || decide (h.2.2 = 0)) && !decide (h.1 = 50 ∨ h.1 = 60 ∨ h.1 = 61)))))) = true := by decide +kernel
theorem mi_inv {h : mHd} (hh : h ∈ mi_hs) : h.2.1 < 7 ∧ (h.1 = 2 → h = (2, 0, 0)) ∧ (h.1 = 3 → h = (3, 0, 0)) ∧ (h.1 = 10 → h = (10, 0, 0)) ∧ (h.1 = 0 → h.2.2 = 0) ∧ ¬ (h.1 = 50 ∨ h.1 = 60 ∨ h.1 = 61) := by
  have h0 := List.all_eq_true.mp mi_inv0 h hh
  simp only [Bool.and_eq_true, Bool.or_eq_true, Bool.not_eq_true', decide_eq_true_eq, decide_eq_false_iff_not] at h0
  obtain ⟨a, b, c, d, e, f⟩ := h0
  exact ⟨a, fun q => b.resolve_left (fun z => z q), fun q => c.resolve_left (fun z => z q), fun q => d.resolve_left (fun z => z q), fun q => e.resolve_left (fun z => z q), f⟩
/-- cells whose numbers stayed -/
theorem mi_ec_D {ad : mHd → Nat} {cI cII cN : ClassId} {M M' : mM} {h : mHd} (hh : h ∈ mi_hs) (hD : ∀ t j p, mi_owner t j p = h → M'.1 t j p = M.1 t j p) (hS : Nat.blt h.1 4 = true → ∀ k, mi_fR h.1 k h.2.1 M'.2.1 = mi_fR h.1 k h.2.1 M.2.1) (hL : h.1 = 3 → M'.2.2 = M.2.2) (hr : mi_rr h M' = mi_rr h M) : mi_ec ad cI cII cN M' h = mi_ec ad cI cII cN M h := by
  unfold mi_ec
  cases hc : Nat.blt h.1 4 with
  | true =>
    refine congrArg (fun z => (.inr (h.1, z) : va_E)) (List.map_congr_left fun k _ => ?_)
    refine congrArg (fun z => mi_emb ad (Option.getD z (.inl 0))) ?_
    unfold mi_gf
    cases hb : Nat.beq h.1 h.1 with
    | false => rfl
    | true =>
      cases hk : mi_fI h.1 k with
      | some q =>
        obtain ⟨t', p'⟩ := q
        have ho := mi_own_f' hh hc hk
        simp only
        rw [hD _ _ _ ho]
      | none =>
        simp only
        rw [hS hc k]
        cases mi_fR h.1 k h.2.1 M.2.1 with
        | some g => rfl
        | none =>
          simp only
          by_cases h3 : h.1 = 3 ∧ k = 18
          · rw [if_pos h3, if_pos h3, hL h3.1]
          · rw [if_neg h3, if_neg h3]
  | false =>
    rw [hr]
    cases hr2 : mi_rr h M with
    | some q => rfl
    | none =>
      cases hs : mi_sl h with
      | none => rfl
      | some q =>
        obtain ⟨t', j', o', n'⟩ := q
        simp only
        refine congrArg (fun z => (.inl (cI, n', .inl z) : va_E)) (funext fun k => ?_)
        by_cases hk : k < n'
        · rw [if_pos hk, if_pos hk, hD _ _ _ (mi_own_s' hh hs hk)]
        · rw [if_neg hk, if_neg hk]
theorem mi_rr_S {h : mHd} {M : mM} {D' : Nat → Nat → Nat → Int32} {S' : Nat → Nat} {x : Int64} (hS : h.1 = 10 → ∀ k, S' (2 + k) = M.2.1 (2 + k)) : mi_rr h (D', S', x) = mi_rr h M := by
  unfold mi_rr
  split <;> first | rfl | skip
  next a b => exact congrArg (fun z => some (5, z)) (funext fun k => congrArg (fun z => ((0, z, 0) : mHd)) (hS rfl k))
theorem mi_fR_S {c k j : Nat} {S S' : Nat → Nat} (h : c ≠ 2 ∨ (S 0 = S' 0 ∧ S 1 = S' 1)) : mi_fR c k j S = mi_fR c k j S' := by
  by_cases hc : c = 2
  · subst hc
    rcases h with h | h
    · exact absurd rfl h
    · exact mi_fR_2 k j (fun _ => h.1) (fun _ => h.2)
  · unfold mi_fR
    split <;> first | rfl | exact absurd rfl hc
/-- a field written: the other cells -/
theorem mi_pf_other {ad : mHd → Nat} {cI cII cN : ClassId} {c k : Nat} {h h' : mHd} {v : mV} {M M' : mM} (hp : mi_pf c k h v M = some M') (hc : Nat.blt c 4 = true) (hh : h ∈ mi_hs) (hh' : h' ∈ mi_hs) (hne : h' ≠ h) : mi_ec ad cI cII cN M' h' = mi_ec ad cI cII cN M h' := by
  unfold mi_pf at hp
  cases hb : Nat.beq h.1 c with
  | false => rw [hb] at hp; cases hp
  | true =>
    rw [hb] at hp
    have e1 : h.1 = c := Nat.eq_of_beq_eq_true hb
    rcases v with x | x | ⟨t0, j0, i0⟩
    · simp only at hp
      cases hf : mi_fI c k with
      | none => rw [hf] at hp; cases hp
      | some q =>
        obtain ⟨t, p⟩ := q
        rw [hf] at hp
        have hM : M' = mi_set M t h.2.1 p x := by
          simp only at hp
          split at hp
          · split at hp
            · exact (Option.some.inj hp).symm
            · cases hp
          · exact (Option.some.inj hp).symm
        subst hM
        refine mi_ec_set hh' ?_
        rw [mi_own_f' hh (by rw [e1]; exact hc) (by rw [e1]; exact hf)]
        exact hne.symm
    · have hq : (if c = 3 ∧ k = 18 then some (mi_setL M x) else none) = some M' := hp
      clear hp
      by_cases hck : c = 3 ∧ k = 18
      · rw [if_pos hck] at hq
        cases hq
        have h3 : h = (3, 0, 0) := (mi_inv hh).2.2.1 (by rw [e1]; exact hck.1)
        exact mi_ec_D hh' (fun _ _ _ _ => rfl) (fun _ _ => rfl) (fun e => absurd (((mi_inv hh').2.2.1 e).trans h3.symm) hne) (mi_rr_D _ _ _ _)
      · rw [if_neg hck] at hq; cases hq
    · cases t0 with
      | succ n => simp at hp
      | zero =>
        simp only at hp
        split at hp
        · cases hp
          have h2 : h = (2, 0, 0) := (mi_inv hh).2.1 e1
          exact mi_ec_D hh' (fun _ _ _ _ => rfl) (fun _ _ => mi_fR_S (Or.inl fun e => hne (((mi_inv hh').2.1 e).trans h2.symm))) (fun _ => rfl) (mi_rr_S fun _ k => if_neg (by omega))
        · cases hp
          have h2 : h = (2, 0, 0) := (mi_inv hh).2.1 e1
          exact mi_ec_D hh' (fun _ _ _ _ => rfl) (fun _ _ => mi_fR_S (Or.inl fun e => hne (((mi_inv hh').2.1 e).trans h2.symm))) (fun _ => rfl) (mi_rr_S fun _ k => if_neg (by omega))
        · cases hp
def mi_A (ad : mHd → Nat) : Nat → Prop := fun q => ∃ h, h ∈ mi_hs ∧ q = ad h
def mi_inj (ad : mHd → Nat) : Prop := ∀ h, h ∈ mi_hs → ∀ h', h' ∈ mi_hs → ad h = ad h' → h = h'
def mi_ws (ad : mHd → Nat) (cI cII cN : ClassId) (M : mM) : va_W := mi_hs.map fun h => (ad h, mi_ec ad cI cII cN M h)
def mi_Rp (ad : mHd → Nat) (D : va_G) (cI cII cN : ClassId) (L : Nat) (xs : Nat → Int32) (M : mM) (H : Heap) : Prop :=
  (∀ h, h ∈ mi_hs → va_at D vwCl (ad h, mi_ec ad cI cII cN M h) H) ∧ (∀ k, k < 7 → M.2.1 k < 7) ∧ (∀ j, j < L → M.1 50 0 j = xs j) ∧ M.1 51 0 0 = Int32.ofNat L
theorem mi_ws_at {ad : mHd → Nat} {cI cII cN : ClassId} {M : mM} {h : mHd} (hh : h ∈ mi_hs) : ∃ p : Nat, (mi_ws ad cI cII cN M)[p]? = some (ad h, mi_ec ad cI cII cN M h) ∧ mi_hs[p]? = some h := by
  obtain ⟨p, hp⟩ := List.getElem?_of_mem hh
  exact ⟨p, by unfold mi_ws; rw [List.getElem?_map, hp]; rfl, hp⟩
theorem mi_ws_of {ad : mHd → Nat} {cI cII cN : ClassId} {M : mM} {p : Nat} {q : Nat × va_E} (h : (mi_ws ad cI cII cN M)[p]? = some q) : ∃ g, mi_hs[p]? = some g ∧ q = (ad g, mi_ec ad cI cII cN M g) := by
  unfold mi_ws at h
  rw [List.getElem?_map] at h
  cases hg : mi_hs[p]? with
  | none => rw [hg] at h; cases h
  | some g => rw [hg] at h; cases h; exact ⟨g, rfl, rfl⟩
theorem mi_P {ad : mHd → Nat} {D : va_G} {cI cII cN : ClassId} {M : mM} {H : Heap} (h : ∀ h, h ∈ mi_hs → va_at D vwCl (ad h, mi_ec ad cI cII cN M h) H) : va_P D vwCl (mi_ws ad cI cII cN M) H := by
  intro k q hq
  obtain ⟨g, hg, rfl⟩ := mi_ws_of hq
  exact h g (List.mem_of_getElem? hg)
theorem mi_D {ad : mHd → Nat} (hi : mi_inj ad) {cI cII cN : ClassId} {M : mM} : va_D (mi_A ad) (mi_ws ad cI cII cN M) := by
  refine ⟨fun i j x y hx hy hxy => ?_, fun k q hq => ?_⟩
  · obtain ⟨g, hg, rfl⟩ := mi_ws_of hx
    obtain ⟨g', hg', rfl⟩ := mi_ws_of hy
    have e := hi g (List.mem_of_getElem? hg) g' (List.mem_of_getElem? hg') hxy
    subst e
    exact (List.getElem?_inj (List.getElem?_eq_some_iff.mp hg).1 mi_hs_nd).mp (hg.trans hg'.symm)
  · obtain ⟨g, hg, rfl⟩ := mi_ws_of hq
    exact ⟨g, List.mem_of_getElem? hg, rfl⟩
/-- one cell written anew -/
theorem mi_P_set {ad : mHd → Nat} {D : va_G} {cI cII cN : ClassId} {M M' : mM} {H : Heap} {p : Nat} {h : mHd} {e : va_E} (hp : mi_hs[p]? = some h) (hP : va_P D vwCl ((mi_ws ad cI cII cN M).set p (ad h, e)) H) (he : mi_ec ad cI cII cN M' h = e) (ho : ∀ h', h' ∈ mi_hs → h' ≠ h → mi_ec ad cI cII cN M' h' = mi_ec ad cI cII cN M h') : ∀ g, g ∈ mi_hs → va_at D vwCl (ad g, mi_ec ad cI cII cN M' g) H := by
  intro g hg
  by_cases e1 : g = h
  · subst e1
    rw [he]
    refine hP p _ (List.getElem?_set_self ?_)
    unfold mi_ws
    rw [List.length_map]
    exact (List.getElem?_eq_some_iff.mp hp).1
  · obtain ⟨k, hk, hk2⟩ := mi_ws_at (ad := ad) (cI := cI) (cII := cII) (cN := cN) (M := M) hg
    rw [ho g hg e1]
    refine hP k _ ?_
    have hpk : p ≠ k := fun z => by
      rw [← z, hp] at hk2
      exact e1 (Option.some.inj hk2).symm
    rw [List.getElem?_set_ne hpk]
    exact hk
