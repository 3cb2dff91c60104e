/-! THE WORLD: which cells the machine's heap holds for a memory of the small machine -/
def mi_emb (ad : mHd → Nat) : mV → Value
  | .inl x => .int x
  | .inr (.inl x) => .long x
  | .inr (.inr h) => .ref (ad h)
def mi_hs : List mHd := [(1, 0, 0), (2, 0, 0), (3, 0, 0), (10, 0, 0), (20, 0, 0), (22, 0, 0)] ++ ((List.range 11).map (fun k => (30 + k, 0, 0)) ++ ((List.range 40).map (fun i => (21, 0, i)) ++ (List.range 7).flatMap (fun j => [(0, j, 0), (11, j, 0), (13, j, 0), (15, j, 0), (16, j, 0), (18, j, 0)] ++ ((List.range 6).map (fun i => (12, j, i)) ++ ((List.range 10).map (fun i => (14, j, i)) ++ (List.range 6).map (fun i => (17, j, i)))))))
theorem mi_hs_nd : mi_hs.Nodup := by decide +kernel
/-- which handle holds a number -/
def mi_owner (t j p : Nat) : mHd := match t with
  | 0 => if p < 3 then (15, j, 0) else if p < 6 then (0, j, 0) else if p < 54 then (12, j, (p - 6) / 8) else (14, j, (p - 54) / 10)
  | 1 => (17, j, p / 4)
  | 2 => (18, j, 0)
  | 3 => (2, j, 0)
  | 4 => (22, j, 0)
  | 5 => (21, j, p / 4)
  | 6 => (1, j, 0)
  | 41 => (3, j, 0)
  | t => (t, j, 0)
theorem mi_own_f : mi_hs.all (fun h => !(Nat.blt h.1 4) || (List.range 19).all (fun k => match mi_fI h.1 k with
    | some (t, p) => decide (mi_owner t h.2.1 p = h)
    | none => true)) = true := by decide +kernel
theorem mi_own_s : mi_hs.all (fun h => match mi_sl h with
    | some (t, j, o, n) => (List.range n).all (fun k => decide (mi_owner t j (o + k) = h))
    | none => true) = true := by decide +kernel
def mi_ec (ad : mHd → Nat) (cI cII cN : ClassId) (M : mM) (h : mHd) : va_E := match Nat.blt h.1 4 with
  | true => .inr (h.1, (List.range (mi_nf h.1)).map fun k => mi_emb ad ((mi_gf h.1 k h M).getD (.inl 0)))
  | false => match mi_rr h M with
    | some (n, f) => .inl ((match Nat.beq h.1 10 with | true => cN | false => cII), n, .inr (.inr (.inr (.inr fun k => if k < n then some (ad (f k)) else none))))
    | none => match mi_sl h with
      | some (t, j, o, n) => .inl (cI, n, .inl fun k => if k < n then M.1 t j (o + k) else 0)
      | none => .inr (9, [])
theorem mi_set_ne {M : mM} {t j p t' j' p' : Nat} {x : Int32} (h : ¬ (t' = t ∧ j' = j ∧ p' = p)) : (mi_set M t j p x).1 t' j' p' = M.1 t' j' p' := by
  unfold mi_set mi_up
  by_cases h1 : t' = t ∧ j' = j
  · simp only [h1, and_self, if_true]
    obtain ⟨rfl, rfl⟩ := h1
    have h2 : p' ≠ p := fun e => h ⟨rfl, rfl, e⟩
    simp [upd, h2]
  · simp only [h1, if_false]
theorem mi_set_eq {M : mM} {t j p : Nat} {x : Int32} : (mi_set M t j p x).1 t j p = x := by
  unfold mi_set mi_up
  simp [upd]
theorem mi_set_ow {M : mM} {t j p t' j' p' : Nat} {x : Int32} (h : mi_owner t' j' p' ≠ mi_owner t j p) : (mi_set M t j p x).1 t' j' p' = M.1 t' j' p' :=
  mi_set_ne fun ⟨a, b, c⟩ => h (by rw [a, b, c])
theorem mi_rr_D (h : mHd) (M : mM) (D' : Nat → Nat → Nat → Int32) (x : Int64) : mi_rr h (D', M.2.1, x) = mi_rr h M := by
  unfold mi_rr
  split <;> rfl
theorem mi_sl_cl {h : mHd} {q : Nat × Nat × Nat × Nat} (hs : mi_sl h = some q) (M : mM) : Nat.blt h.1 4 = false ∧ mi_rr h M = none := by
  unfold mi_sl at hs
  split at hs <;> first | exact ⟨rfl, rfl⟩ | cases hs
theorem mi_own_f' {h : mHd} (hh : h ∈ mi_hs) (hc : Nat.blt h.1 4 = true) {k t p : Nat} (hk : mi_fI h.1 k = some (t, p)) : mi_owner t h.2.1 p = h := by
  have h0 := List.all_eq_true.mp mi_own_f h hh
  rw [hc] at h0
  have hk19 : k < 19 := by
    have hk' := hk
    unfold mi_fI at hk'
    split at hk' <;> first | omega | cases hk'
  have h1 := List.all_eq_true.mp h0 k (List.mem_range.mpr hk19)
  rw [hk] at h1
  exact of_decide_eq_true h1
theorem mi_own_s' {h : mHd} (hh : h ∈ mi_hs) {t j o n k : Nat} (hs : mi_sl h = some (t, j, o, n)) (hk : k < n) : mi_owner t j (o + k) = h := by
  have h0 := List.all_eq_true.mp mi_own_s h hh
  rw [hs] at h0
  exact of_decide_eq_true (List.all_eq_true.mp h0 k (List.mem_range.mpr hk))
/-- a number written: the other cells -/
theorem mi_ec_set {ad : mHd → Nat} {cI cII cN : ClassId} {M : mM} {t j p : Nat} {x : Int32} {h : mHd} (hh : h ∈ mi_hs) (hne : mi_owner t j p ≠ h) : mi_ec ad cI cII cN (mi_set M t j p x) h = mi_ec ad cI cII cN M h := by
  unfold mi_ec
  cases hc : Nat.blt h.1 4 with
  | true =>
    refine congrArg (fun z => (.inr (h.1, z) : va_E)) (List.map_congr_left fun k _ => ?_)
    refine congrArg (fun z => mi_emb ad (Option.getD z (.inl 0))) ?_
    unfold mi_gf
    cases hb : Nat.beq h.1 h.1 with
    | false => rfl
    | true =>
      cases hk : mi_fI h.1 k with
      | some q =>
        obtain ⟨t', p'⟩ := q
        have ho := mi_own_f' hh hc hk
        simp only
        rw [mi_set_ow (by rw [ho]; exact hne.symm)]
      | none => rfl
  | false =>
    rw [show mi_rr h (mi_set M t j p x) = mi_rr h M from mi_rr_D h M _ _]
    cases hr : mi_rr h M with
    | some q => rfl
    | none =>
      cases hs : mi_sl h with
      | none => rfl
      | some q =>
        obtain ⟨t', j', o', n'⟩ := q
        simp only
        refine congrArg (fun z => (.inl (cI, n', .inl z) : va_E)) (funext fun k => ?_)
        by_cases hk : k < n'
        · rw [if_pos hk, if_pos hk, mi_set_ow (by rw [mi_own_s' hh hs hk]; exact hne.symm)]
        · rw [if_neg hk, if_neg hk]
theorem mi_ec_arr {ad : mHd → Nat} {cI cII cN : ClassId} {M : mM} {t j o n : Nat} {h : mHd} (hs : mi_sl h = some (t, j, o, n)) : mi_ec ad cI cII cN M h = .inl (cI, n, .inl fun k => if k < n then M.1 t j (o + k) else 0) := by
  obtain ⟨h1, h2⟩ := mi_sl_cl hs M
  unfold mi_ec
  rw [h1, h2, hs]
/-- a number of a row written: the row's cell -/
theorem mi_ec_ast {ad : mHd → Nat} {cI cII cN : ClassId} {M : mM} {t j o n k : Nat} {x : Int32} {h : mHd} (hs : mi_sl h = some (t, j, o, n)) (hk : k < n) : mi_ec ad cI cII cN (mi_set M t j (o + k) x) h = .inl (cI, n, .inl (upd (fun k => if k < n then M.1 t j (o + k) else 0) k x)) := by
  rw [mi_ec_arr hs]
  refine congrArg (fun z => (.inl (cI, n, .inl z) : va_E)) (funext fun i => ?_)
  by_cases e : i = k
  · subst e
    rw [if_pos hk, mi_set_eq]
    simp [upd]
  · simp only [upd, e, if_false]
    by_cases hi : i < n
    · rw [if_pos hi, if_pos hi, mi_set_ne (fun ⟨_, _, q⟩ => e (by omega))]
    · rw [if_neg hi, if_neg hi]
theorem mi_ec_obj {ad : mHd → Nat} {cI cII cN : ClassId} {M : mM} {h : mHd} (hc : Nat.blt h.1 4 = true) : mi_ec ad cI cII cN M h = .inr (h.1, (List.range (mi_nf h.1)).map fun k => mi_emb ad ((mi_gf h.1 k h M).getD (.inl 0))) := by
  unfold mi_ec
  rw [hc]
theorem mi_fs_at {n k : Nat} {F : Nat → Value} (hk : k < n) : ((List.range n).map F)[k]? = some (F k) := by
  rw [List.getElem?_map, List.getElem?_range hk]; rfl
theorem mi_fs_set {n k : Nat} {F G : Nat → Value} (hk : k < n) (hne : ∀ i, i < n → i ≠ k → G i = F i) : (List.range n).map G = ((List.range n).map F).set k (G k) := by
  refine List.ext_getElem? fun i => ?_
  by_cases e : i = k
  · subst e
    rw [mi_fs_at hk, List.getElem?_set_self (by simpa using hk)]
  · rw [List.getElem?_set_ne (Ne.symm e)]
    by_cases hi : i < n
    · rw [mi_fs_at hi, mi_fs_at hi, hne i hi e]
    · simp [List.getElem?_map, List.getElem?_eq_none, hi]
theorem mi_fR_2 (i j : Nat) {S S' : Nat → Nat} (h0 : i = 0 → S 0 = S' 0) (h1 : i = 1 → S 1 = S' 1) : mi_fR 2 i j S = mi_fR 2 i j S' := by
  rcases i with _ | _ | _ | _ | _ | n
  · show some (0, S 0, 0) = some (0, S' 0, 0); rw [h0 rfl]
  · show some (0, S 1, 0) = some (0, S' 1, 0); rw [h1 rfl]
  · rfl
  · rfl
  · rfl
  · rfl
def mi_nrm : mV → mV
  | .inr (.inr (_, j, _)) => .inr (.inr (0, j, 0))
  | w => w
/-- what a field written changes of its own object -/
theorem mi_pf_self {c k : Nat} {h : mHd} {v : mV} {M M' : mM} (hp : mi_pf c k h v M = some M') : mi_gf c k h M' = some (mi_nrm v) ∧ (∀ i, i ≠ k → mi_gf c i h M' = mi_gf c i h M) := by
  unfold mi_pf at hp
  cases hb : Nat.beq h.1 c with
  | false => rw [hb] at hp; cases hp
  | true =>
    rw [hb] at hp
    rcases v with x | x | ⟨t0, j0, i0⟩
    · simp only at hp
      cases hf : mi_fI c k with
      | none => rw [hf] at hp; cases hp
      | some q =>
        obtain ⟨t, p⟩ := q
        rw [hf] at hp
        have hM : M' = mi_set M t h.2.1 p x := by
          simp only at hp
          split at hp
          · split at hp
            · exact (Option.some.inj hp).symm
            · cases hp
          · exact (Option.some.inj hp).symm
        subst hM
        refine ⟨?_, fun i hi => ?_⟩
        · unfold mi_gf
          rw [hb, hf]
          simp only [mi_set_eq]
          rfl
        · unfold mi_gf
          rw [hb]
          cases hg : mi_fI c i with
          | none => rfl
          | some q' =>
            obtain ⟨t', p'⟩ := q'
            simp only
            rw [mi_set_ne]
            rintro ⟨rfl, -, rfl⟩
            apply hi
            unfold mi_fI at hf hg
            split at hf <;> cases hf <;> split at hg <;> first | rfl | cases hg
    · have hq : (if c = 3 ∧ k = 18 then some (mi_setL M x) else none) = some M' := hp
      clear hp
      by_cases hck : c = 3 ∧ k = 18
      · rw [if_pos hck] at hq
        obtain ⟨rfl, rfl⟩ := hck
        cases hq
        refine ⟨?_, fun i hi => ?_⟩
        · unfold mi_gf; rw [hb]; rfl
        · unfold mi_gf; rw [hb]
          cases hg : mi_fI 3 i with
          | some q' => rfl
          | none =>
            simp only
            cases hr : mi_fR 3 i h.2.1 M.2.1 with
            | some g => rw [show mi_fR 3 i h.2.1 (mi_setL M x).2.1 = mi_fR 3 i h.2.1 M.2.1 from rfl, hr]
            | none => rw [show mi_fR 3 i h.2.1 (mi_setL M x).2.1 = mi_fR 3 i h.2.1 M.2.1 from rfl, hr]; simp [hi]
      · rw [if_neg hck] at hq
        cases hq
    · cases t0 with
      | succ n => simp at hp
      | zero =>
        simp only at hp
        split at hp
        · cases hp
          refine ⟨?_, fun i hi => ?_⟩
          · unfold mi_gf; rw [hb]; simp [mi_fI, mi_fR, mi_setS, va_up, mi_nrm]
          · unfold mi_gf
            rw [hb]
            simp only [mi_setS]
            rw [mi_fR_2 i h.2.1 (S := va_up M.2.1 0 j0) (S' := M.2.1) (fun e => absurd e hi) (fun _ => by simp [va_up])]
        · cases hp
          refine ⟨?_, fun i hi => ?_⟩
          · unfold mi_gf; rw [hb]; simp [mi_fI, mi_fR, mi_setS, va_up, mi_nrm]
          · unfold mi_gf
            rw [hb]
            simp only [mi_setS]
            rw [mi_fR_2 i h.2.1 (S := va_up M.2.1 1 j0) (S' := M.2.1) (fun _ => by simp [va_up]) (fun e => absurd e hi)]
        · cases hp
