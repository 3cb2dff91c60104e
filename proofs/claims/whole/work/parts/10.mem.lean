
def mi_RX (c : Nat) : String := match c with
  | 0 => RX0
  | 1 => RX1
  | 2 => RX2
  | _ => RX3
theorem mi_c4 {c : Nat} (h : Nat.blt c 4 = true) : vwCl[c]? = some (mi_RX c, mi_TX c, mi_nf c) ∧ (∀ w ∈ u_ws (mi_RX c) (mi_TX c) (mi_nf c), w ∈ mi_gt) ∧ (∀ k, k < mi_nf c → parseFieldDescriptor (mi_TX c k).2.2.1 = some (mi_ty c k)) ∧ (∀ a, a < mi_nf c → ∀ b, b < mi_nf c → a ≠ b → (mi_TX c a).2.1 ≠ (mi_TX c b).2.1) := by
  have hc := mi_blt h
  match c, hc with
  | 0, _ => exact ⟨rfl, mi_w_X0, tyX0_ok, nmX0⟩
  | 1, _ => exact ⟨rfl, mi_w_X1, tyX1_ok, nmX1⟩
  | 2, _ => exact ⟨rfl, mi_w_X2, tyX2_ok, nmX2⟩
  | 3, _ => exact ⟨rfl, mi_w_X3, tyX3_ok, nmX3⟩
theorem mi_f3_mem : ∀ (l : List (Nat × Nat × Nat × Nat)) (c k p q : Nat), mi_f3 l c k = some (p, q) → (c, k, p, q) ∈ l
  | [], _, _, _, _, h => by cases h
  | (a, b, u, v) :: l, c, k, p, q, h => by
    rw [mi_f3] at h
    cases hb : Nat.beq a c && Nat.beq b k with
    | true =>
      rw [hb] at h
      cases h
      simp only [Bool.and_eq_true] at hb
      rw [Nat.eq_of_beq_eq_true hb.1, Nat.eq_of_beq_eq_true hb.2]
      exact List.mem_cons_self
    | false => rw [hb] at h; exact List.mem_cons_of_mem _ (mi_f3_mem l c k p q h)
theorem mi_lc3_mem : ∀ (l : List (Nat × Nat × Int64)) (c k : Nat) (v : Int64), mi_lc3 l c k = some v → (c, k, v) ∈ l
  | [], _, _, _, h => by cases h
  | (a, b, u) :: l, c, k, v, h => by
    rw [mi_lc3] at h
    cases hb : Nat.beq a c && Nat.beq b k with
    | true =>
      rw [hb] at h
      cases h
      simp only [Bool.and_eq_true] at hb
      rw [Nat.eq_of_beq_eq_true hb.1, Nat.eq_of_beq_eq_true hb.2]
      exact List.mem_cons_self
    | false => rw [hb] at h; exact List.mem_cons_of_mem _ (mi_lc3_mem l c k v h)
/-- a field that the code names: its class is one of the four, its slot is there, its word is in the tables -/
theorem mi_fl_ok {o k c f : Nat} (h : mi_f3 mi_fls o k = some (c, f)) : Nat.blt c 4 = true ∧ f < mi_nf c ∧ Cond.fieldLink (mi_cn o) k (mi_TX c f).1 (mi_TX c f).2.1 (mi_TX c f).2.2.1 ∈ mi_gt := by
  have hm := mi_f3_mem _ _ _ _ _ h
  have h2 := List.all_eq_true.mp mi_w_fl2 _ hm
  simp only [Bool.and_eq_true] at h2
  exact ⟨h2.1, mi_blt h2.2, mi_w_fl _ (List.mem_map.mpr ⟨_, hm, rfl⟩)⟩
theorem mi_ix_in {i : Int32} {n k : Nat} (h : mi_ix i n = some k) : vp_in i n ∧ k = i.toNatClampNeg ∧ k < n := by
  unfold mi_ix at h
  by_cases hc : i < 0 ∨ n ≤ i.toNatClampNeg
  · rw [if_pos hc] at h; cases h
  · rw [if_neg hc] at h
    cases h
    exact ⟨hc, rfl, Nat.not_le.mp fun q => hc (Or.inr q)⟩
theorem mi_okv_own {h : mHd} (ho : mi_okv (.inr (.inr h))) (h1 : ¬ (h.1 = 50 ∨ h.1 = 60 ∨ h.1 = 61)) : h ∈ mi_hs := by
  rcases ho with ho | rfl | rfl | rfl
  · exact ho
  · exact absurd (Or.inl rfl) h1
  · exact absurd (Or.inr (Or.inl rfl)) h1
  · exact absurd (Or.inr (Or.inr rfl)) h1
theorem mi_gf_tag {c k : Nat} {h : mHd} {M : mM} {v : mV} (hg : mi_gf c k h M = some v) : h.1 = c := by
  unfold mi_gf at hg
  cases hb : Nat.beq h.1 c with
  | true => exact Nat.eq_of_beq_eq_true hb
  | false => rw [hb] at hg; cases hg
theorem mi_pf_tag {c k : Nat} {h : mHd} {M M' : mM} {v : mV} (hg : mi_pf c k h v M = some M') : h.1 = c := by
  unfold mi_pf at hg
  cases hb : Nat.beq h.1 c with
  | true => exact Nat.eq_of_beq_eq_true hb
  | false => rw [hb] at hg; cases hg
/-- what a field holds is a handle of the world -/
theorem mi_gf_ok {c k : Nat} {h : mHd} {M : mM} {v : mV} (hh : h ∈ mi_hs) (hS : ∀ k, k < 7 → M.2.1 k < 7) (hg : mi_gf c k h M = some v) : mi_okv v := by
  have hj := (mi_inv hh).1
  unfold mi_gf at hg
  cases hb : Nat.beq h.1 c with
  | false => rw [hb] at hg; cases hg
  | true =>
    rw [hb] at hg
    simp only at hg
    cases hf : mi_fI c k with
    | some q => rw [hf] at hg; cases hg; exact trivial
    | none =>
      rw [hf] at hg
      simp only at hg
      cases hr : mi_fR c k h.2.1 M.2.1 with
      | none =>
        rw [hr] at hg
        simp only at hg
        split at hg
        · cases hg; exact trivial
        · cases hg
      | some g =>
        rw [hr] at hg
        cases hg
        refine Or.inl ?_
        unfold mi_fR at hr
        split at hr <;> cases hr
        · exact mi_m0_11 _ hj
        · exact mi_m0_13 _ hj
        · exact mi_m0_15 _ hj
        · exact mi_m0_16 _ hj
        · exact mi_m0_18 _ hj
        · exact mi_m1.2.2.2.2.1
        · exact mi_m1.2.2.2.2.2
        · exact mi_m0_0 _ (hS 0 (by decide))
        · exact mi_m0_0 _ (hS 1 (by decide))
        · exact mi_m1.2.2.2.1
        · exact mi_m1.1
        · exact mi_m30 0 (by decide)
        · exact mi_m30 1 (by decide)
        · exact mi_m30 2 (by decide)
        · exact mi_m30 3 (by decide)
        · exact mi_m30 4 (by decide)
        · exact mi_m30 5 (by decide)
        · exact mi_m30 6 (by decide)
        · exact mi_m30 7 (by decide)
        · exact mi_m30 8 (by decide)
        · exact mi_m30 9 (by decide)
        · exact mi_m30 10 (by decide)
theorem mi_rr_ok {h : mHd} {M : mM} {n k : Nat} {f : Nat → mHd} (hh : h ∈ mi_hs) (hS : ∀ k, k < 7 → M.2.1 k < 7) (hr : mi_rr h M = some (n, f)) (hk : k < n) : f k ∈ mi_hs := by
  have hj := (mi_inv hh).1
  unfold mi_rr at hr
  split at hr <;> cases hr
  · exact mi_m0_0 _ (hS (2 + k) (by omega))
  · exact mi_m12a _ hj _ hk
  · exact mi_m14 _ hj _ hk
  · exact mi_m17 _ hj _ hk
  · exact mi_m21 _ hk
theorem mi_sl_t {h : mHd} {t j o n : Nat} (hs : mi_sl h = some (t, j, o, n)) : t ≠ 50 ∧ t ≠ 51 := by
  unfold mi_sl at hs
  split at hs <;> cases hs <;> exact ⟨by decide, by decide⟩
theorem mi_fI_t {c k t p : Nat} (hs : mi_fI c k = some (t, p)) : t ≠ 50 ∧ t ≠ 51 := by
  unfold mi_fI at hs
  split at hs <;> cases hs <;> exact ⟨by decide, by decide⟩
/-- a field written: its type takes the value -/
theorem mi_pf_ty {ad : mHd → Nat} {c k : Nat} {h : mHd} {M M' : mM} {v : mV} (hp : mi_pf c k h v M = some M') : (mi_TX c k).2.2.2 = false ∧ narrow (mi_ty c k) (mi_emb ad v) = mi_emb ad v ∧ fits (mi_ty c k) (mi_emb ad v) = true := by
  unfold mi_pf at hp
  cases hb : Nat.beq h.1 c with
  | false => rw [hb] at hp; cases hp
  | true =>
    rw [hb] at hp
    rcases v with x | x | ⟨t0, j0, i0⟩
    · simp only at hp
      cases hf : mi_fI c k with
      | none => rw [hf] at hp; cases hp
      | some q =>
        obtain ⟨t, p⟩ := q
        rw [hf] at hp
        unfold mi_fI at hf
        split at hf <;> cases hf <;> first | exact ⟨rfl, rfl, rfl⟩ | skip
        simp only at hp
        split at hp
        · next hx =>
          rcases hx with rfl | rfl
          · exact ⟨rfl, rfl, rfl⟩
          · exact ⟨rfl, rfl, rfl⟩
        · cases hp
    · have hq : (if c = 3 ∧ k = 18 then some (mi_setL M x) else none) = some M' := hp
      by_cases hck : c = 3 ∧ k = 18
      · obtain ⟨rfl, rfl⟩ := hck
        exact ⟨rfl, rfl, rfl⟩
      · rw [if_neg hck] at hq; cases hq
    · cases t0 with
      | succ n => simp at hp
      | zero =>
        simp only at hp
        split at hp
        · exact ⟨rfl, rfl, rfl⟩
        · exact ⟨rfl, rfl, rfl⟩
        · cases hp
theorem mi_pf_keep {c k : Nat} {h : mHd} {M M' : mM} {v : mV} (hp : mi_pf c k h v M = some M') (hv : mi_okv v) (hS : ∀ k, k < 7 → M.2.1 k < 7) : (∀ k, k < 7 → M'.2.1 k < 7) ∧ M'.1 50 0 = M.1 50 0 ∧ M'.1 51 0 0 = M.1 51 0 0 := by
  unfold mi_pf at hp
  cases hb : Nat.beq h.1 c with
  | false => rw [hb] at hp; cases hp
  | true =>
    rw [hb] at hp
    rcases v with x | x | ⟨t0, j0, i0⟩
    · simp only at hp
      cases hf : mi_fI c k with
      | none => rw [hf] at hp; cases hp
      | some q =>
        obtain ⟨t, p⟩ := q
        rw [hf] at hp
        have hM : M' = mi_set M t h.2.1 p x := by
          simp only at hp
          split at hp
          · split at hp
            · exact (Option.some.inj hp).symm
            · cases hp
          · exact (Option.some.inj hp).symm
        subst hM
        have ht := mi_fI_t hf
        exact ⟨hS, funext fun i => mi_set_ne fun q => ht.1 q.1.symm, mi_set_ne fun q => ht.2 q.1.symm⟩
    · have hq : (if c = 3 ∧ k = 18 then some (mi_setL M x) else none) = some M' := hp
      by_cases hck : c = 3 ∧ k = 18
      · rw [if_pos hck] at hq; cases hq; exact ⟨hS, rfl, rfl⟩
      · rw [if_neg hck] at hq; cases hq
    · cases t0 with
      | succ n => simp at hp
      | zero =>
        have hj : j0 < 7 := (mi_inv (mi_okv_own hv (by simp))).1
        have hup : ∀ a k, k < 7 → va_up M.2.1 a j0 k < 7 := fun a k hk => by
          unfold va_up
          by_cases e : k = a
          · rw [if_pos e]; exact hj
          · rw [if_neg e]; exact hS k hk
        simp only at hp
        split at hp
        · cases hp; exact ⟨hup 0, rfl, rfl⟩
        · cases hp; exact ⟨hup 1, rfl, rfl⟩
        · cases hp
theorem mi_sw_spec {x : Int32} {d : Nat} : ∀ (ts : List Nat) (lo : Int), 0 ≤ lo → lo + ts.length < 2000 → (x.toInt < lo ∨ lo + ts.length ≤ x.toInt → mi_sw x lo ts d = d) ∧ (¬ x.toInt < lo → x.toInt < lo + ts.length → ts[(x.toInt - lo).toNat]? = some (mi_sw x lo ts d))
  | [], lo, h0, h1 => ⟨fun _ => rfl, fun a b => by simp at b; omega⟩
  | t :: ts, lo, h0, h1 => by
    simp only [List.length_cons, Int.natCast_add, Int.cast_ofNat_Int] at h1
    have ih := mi_sw_spec (x := x) (d := d) ts (lo + 1) (by omega) (by omega)
    have hlo : (Int32.ofInt lo).toInt = lo := Int32.toInt_ofInt_of_le (by simp; omega) (by simp; omega)
    have hx : x = Int32.ofInt lo ↔ x.toInt = lo := ⟨fun e => by rw [e, hlo], fun e => by rw [← Int32.toInt_inj, hlo, e]⟩
    rw [mi_sw]
    simp only [hx, List.length_cons, Int.natCast_add, Int.cast_ofNat_Int]
    by_cases e : x.toInt = lo
    · rw [if_pos e]
      refine ⟨fun h => by omega, fun _ _ => ?_⟩
      rw [e]; simp
    · rw [if_neg e]
      refine ⟨fun h => ih.1 (by omega), fun a b => ?_⟩
      have := ih.2 (by omega) (by omega)
      rw [show (x.toInt - lo).toNat = (x.toInt - (lo + 1)).toNat + 1 by omega, List.getElem?_cons_succ]
      exact this
section MM
variable {p : Program} {l : Launch} {e : Env} {R : Room} {s : State} {m : MethodId} {args : Array Value} {below : List Frame} {meth : Method} {c : Code} {cells slots : Nat} {Q : State → Prop}
variable {ad : mHd → Nat} {D : va_G} {cI cII cN : ClassId} {L : Nat} {xs : Nat → Int32}
variable {y pc : Nat} {ls : mLs} {st r : List mV} {M : mM}

theorem ms_getfield (C : mi_Cx y p R s m args c cells slots ad D cI cII cN L xs) {k cc f : Nat} {h : mHd} {v : mV} (hf : mi_f3 mi_fls (mi_oc y) k = some (cc, f)) (hg : mi_gf cc f h M = some v) (hd : decode (mi_cd y) pc = .ok (.getfield k, 3)) (hV : mi_V p l e R s m args below meth c cells slots Q ad D cI cII cN L xs y (pc + 3) (ls) (v :: r) (M)) : mi_V p l e R s m args below meth c cells slots Q ad D cI cII cN L xs y (pc) (ls) (.inr (.inr h) :: r) (M) := by
  intro H locs A hR hS hl hol hos
  obtain ⟨hx, hb, hml, hown, hts, hK, -⟩ := C
  obtain ⟨h4, hfn, hw⟩ := mi_fl_ok hf
  obtain ⟨c1, c2, c3, c5⟩ := mi_c4 h4
  have htag := mi_gf_tag hg
  have h4' := mi_blt h4
  have hh : h ∈ mi_hs := mi_okv_own hos.1 (by omega)
  have hat := hR.1 h hh
  rw [mi_ec_obj (by rw [htag]; exact h4)] at hat
  subst htag
  refine va_get (D := D) (cl := vwCl) (ws := [(ad h, .inr (h.1, (List.range (mi_nf h.1)).map fun k => mi_emb ad ((mi_gf h.1 k h M).getD (.inl 0))))]) (C := mi_RX h.1) (T := mi_TX h.1) (N := mi_nf h.1) (ci := h.1) (a := ad h) (v := mi_emb ad v) hx hb hts c2 hown hK.1 (fun i q hq => ?_) 0 rfl c1 f hfn (hts _ hw) (fun _ h9 => h9) ?_ hd (hV H locs A hR hS hl hol ⟨mi_gf_ok hh hR.2.1 hg, hos.2⟩)
  · have h0 : i < 1 := (List.getElem?_eq_some_iff.mp hq).1
    rw [show i = 0 by omega] at hq
    cases hq
    exact hat
  · rw [mi_fs_at hfn, hg]; rfl
theorem ms_putfield (C : mi_Cx y p R s m args c cells slots ad D cI cII cN L xs) {k cc f : Nat} {h : mHd} {v : mV} {M' : mM} (hf : mi_f3 mi_fls (mi_oc y) k = some (cc, f)) (hg : mi_pf cc f h v M = some M') (hd : decode (mi_cd y) pc = .ok (.putfield k, 3)) (hV : mi_V p l e R s m args below meth c cells slots Q ad D cI cII cN L xs y (pc + 3) (ls) (r) (M')) : mi_V p l e R s m args below meth c cells slots Q ad D cI cII cN L xs y (pc) (ls) (v :: .inr (.inr h) :: r) (M) := by
  intro H locs A hR hS hl hol hos
  obtain ⟨hx, hb, hml, hown, hts, hK, -, hinj, -⟩ := C
  obtain ⟨h4, hfn, hw⟩ := mi_fl_ok hf
  obtain ⟨c1, c2, c3, c5⟩ := mi_c4 h4
  have htag := mi_pf_tag hg
  have h4' := mi_blt h4
  have hh : h ∈ mi_hs := mi_okv_own hos.2.1 (by omega)
  obtain ⟨q0, hq0, hq1⟩ := mi_ws_at (ad := ad) (cI := cI) (cII := cII) (cN := cN) (M := M) hh
  subst htag
  rw [mi_ec_obj h4] at hq0
  obtain ⟨t1, t2, t3⟩ := mi_pf_ty (ad := ad) hg
  obtain ⟨k1, k2, k3⟩ := mi_pf_keep hg hos.1 hR.2.1
  obtain ⟨s1, s2⟩ := mi_pf_self hg
  refine va_put (D := D) (cl := vwCl) (ws := mi_ws ad cI cII cN M) (C := mi_RX h.1) (T := mi_TX h.1) (N := mi_nf h.1) (ci := h.1) (a := ad h) (v := mi_emb ad v) (ty := mi_ty h.1 f) hx hb hts c2 (mi_ty h.1) c3 c5 hown hK.1 (mi_P hR.1) (mi_D hinj) hS q0 hq0 c1 f hfn (hts _ hw) (fun _ h9 => h9) t1 (c3 f hfn) t2 t3 (by simpa using hfn) hd (fun H1 locs1 hP1 _ hS1 => ?_)
  refine hV H1 locs1 A ⟨mi_P_set hq1 hP1 ?_ (fun h' hh' hne => mi_pf_other hg h4 hh hh' hne), k1, fun j hj => by rw [k2]; exact hR.2.2.1 j hj, by rw [k3]; exact hR.2.2.2⟩ hS1 hl hol hos.2.2
  rw [mi_ec_obj h4]
  refine congrArg (fun z => (.inr (h.1, z) : va_E)) ?_
  have hval : mi_emb ad ((mi_gf h.1 f h M').getD (.inl 0)) = mi_emb ad v := by
    rw [s1]
    rcases v with x | x | ⟨t0, j0, i0⟩
    · rfl
    · rfl
    · have hz : (t0, j0, i0) ∈ mi_hs ∧ t0 = 0 := by
        have ht0 : t0 = 0 := by
          unfold mi_pf at hg
          cases hb2 : Nat.beq h.1 h.1 with
          | false => rw [hb2] at hg; cases hg
          | true =>
            rw [hb2] at hg
            cases t0 with
            | zero => rfl
            | succ n => simp at hg
        subst ht0
        exact ⟨mi_okv_own hos.1 (by simp), rfl⟩
      have hi0 : i0 = 0 := (mi_inv hz.1).2.2.2.2.1 hz.2
      rw [hz.2, hi0]; rfl
  rw [mi_fs_set (n := mi_nf h.1) (k := f) (G := fun k => mi_emb ad ((mi_gf h.1 k h M').getD (.inl 0))) (F := fun k => mi_emb ad ((mi_gf h.1 k h M).getD (.inl 0))) hfn (fun i _ hi => by rw [s2 i hi]), hval]
theorem ms_iaload (C : mi_Cx y p R s m args c cells slots ad D cI cII cN L xs) {n k : Nat} {f : Nat → Int32} {h : mHd} {i : Int32} (hr : mi_rd h M = some (n, f)) (hi : mi_ix i n = some k) (hd : decode (mi_cd y) pc = .ok (.iaload, 1)) (hV : mi_V p l e R s m args below meth c cells slots Q ad D cI cII cN L xs y (pc + 1) (ls) (.inl (f k) :: r) (M)) : mi_V p l e R s m args below meth c cells slots Q ad D cI cII cN L xs y (pc) (ls) (.inl i :: .inr (.inr h) :: r) (M) := by
  intro H locs A hR hS hl hol hos
  obtain ⟨hx, hb, hml, hown, hts, hK, -⟩ := C
  obtain ⟨i1, i2, i3⟩ := mi_ix_in hi
  have kk := hV H locs A hR hS hl hol ⟨trivial, hos.2.2⟩
  by_cases hext : h.1 = 50 ∨ h.1 = 60 ∨ h.1 = 61
  · have hh : h = (50, 0, 0) ∨ h = (60, 0, 0) ∨ h = (61, 0, 0) := by
      rcases hos.2.1 with ho | ho
      · exact absurd hext (mi_inv ho).2.2.2.2.2
      · exact ho
    rcases hh with rfl | rfl | rfl
    · have hr' : some ((M.1 51 0 0).toNatClampNeg, M.1 50 0) = some (n, f) := hr
      cases hr'
      have hL : (M.1 51 0 0).toNatClampNeg = L := by rw [hR.2.2.2]; exact nI_clamp hK.2.2.2.2.2.2.2.2.2
      rw [hL] at i1 i3
      refine va_ti hx hb hK.2.2.2.2.2.2.2.2.1 hS i1 rfl hd ?_
      rw [← hR.2.2.1 _ (by rw [← i2]; exact i3), ← i2]
      exact kk
    · have hr' : some (3, mi_c60) = some (n, f) := hr
      cases hr'
      refine va_ti hx hb hK.2.2.2.2.2.1 hS i1 rfl hd ?_
      rw [← i2]; exact kk
    · have hr' : some (3, mi_c61) = some (n, f) := hr
      cases hr'
      refine va_ti hx hb hK.2.2.2.2.2.2.2.1 hS i1 rfl hd ?_
      rw [← i2]; exact kk
  · have hh := mi_okv_own hos.2.1 hext
    have hs : ∃ t j o, mi_sl h = some (t, j, o, n) ∧ f = fun k => M.1 t j (o + k) := by
      unfold mi_rd at hr
      split at hr
      · next e => exact absurd (Or.inl e) hext
      · next e => exact absurd (Or.inr (Or.inl e)) hext
      · next e => exact absurd (Or.inr (Or.inr e)) hext
      · split at hr
        · next t j o n' e => cases hr; exact ⟨t, j, o, e, rfl⟩
        · cases hr
    obtain ⟨t, j, o, hs, rfl⟩ := hs
    have hat := hR.1 h hh
    rw [mi_ec_arr hs] at hat
    refine va_iald (D := D) (cl := vwCl) (ws := [(ad h, .inl (cI, n, .inl fun k => if k < n then M.1 t j (o + k) else 0))]) hx hb hK.1 (fun i q hq => ?_) 0 0 rfl rfl i1 hd ?_
    · have h0 : i < 1 := (List.getElem?_eq_some_iff.mp hq).1
      rw [show i = 0 by omega] at hq
      cases hq
      exact hat
    · rw [← i2, if_pos i3]; exact kk
theorem ms_alen (C : mi_Cx y p R s m args c cells slots ad D cI cII cN L xs) {n : Nat} {f : Nat → Int32} {h : mHd} (hr : mi_rd h M = some (n, f)) (hd : decode (mi_cd y) pc = .ok (.arraylength, 1)) (hV : mi_V p l e R s m args below meth c cells slots Q ad D cI cII cN L xs y (pc + 1) (ls) (.inl (Int32.ofNat n) :: r) (M)) : mi_V p l e R s m args below meth c cells slots Q ad D cI cII cN L xs y (pc) (ls) (.inr (.inr h) :: r) (M) := by
  intro H locs A hR hS hl hol hos
  obtain ⟨hx, hb, hml, hown, hts, hK, -⟩ := C
  have kk := hV H locs A hR hS hl hol ⟨trivial, hos.2⟩
  by_cases hext : h.1 = 50 ∨ h.1 = 60 ∨ h.1 = 61
  · have hh : h = (50, 0, 0) ∨ h = (60, 0, 0) ∨ h = (61, 0, 0) := by
      rcases hos.1 with ho | ho
      · exact absurd hext (mi_inv ho).2.2.2.2.2
      · exact ho
    rcases hh with rfl | rfl | rfl
    · have hr' : some ((M.1 51 0 0).toNatClampNeg, M.1 50 0) = some (n, f) := hr
      cases hr'
      have hL : (M.1 51 0 0).toNatClampNeg = L := by rw [hR.2.2.2]; exact nI_clamp hK.2.2.2.2.2.2.2.2.2
      rw [hL] at kk
      exact va_tlen hx hb hK.2.2.2.2.2.2.2.2.1 hS rfl hd kk
    · have hr' : some (3, mi_c60) = some (n, f) := hr
      cases hr'
      exact va_tlen hx hb hK.2.2.2.2.2.1 hS rfl hd kk
    · have hr' : some (3, mi_c61) = some (n, f) := hr
      cases hr'
      exact va_tlen hx hb hK.2.2.2.2.2.2.2.1 hS rfl hd kk
  · have hh := mi_okv_own hos.1 hext
    have hs : ∃ t j o, mi_sl h = some (t, j, o, n) := by
      unfold mi_rd at hr
      split at hr
      · next e => exact absurd (Or.inl e) hext
      · next e => exact absurd (Or.inr (Or.inl e)) hext
      · next e => exact absurd (Or.inr (Or.inr e)) hext
      · split at hr
        · next t j o n' e => cases hr; exact ⟨t, j, o, e⟩
        · cases hr
    obtain ⟨t, j, o, hs⟩ := hs
    have hat := hR.1 h hh
    rw [mi_ec_arr hs] at hat
    refine va_alen (D := D) (cl := vwCl) (ws := [(ad h, .inl (cI, n, .inl fun k => if k < n then M.1 t j (o + k) else 0))]) hx hb hK.1 (fun i q hq => ?_) 0 0 rfl (ty := .int) rfl rfl hd kk
    have h0 : i < 1 := (List.getElem?_eq_some_iff.mp hq).1
    rw [show i = 0 by omega] at hq
    cases hq
    exact hat
theorem ms_iastore (C : mi_Cx y p R s m args c cells slots ad D cI cII cN L xs) {t j o n k : Nat} {h : mHd} {i x : Int32} (hs : mi_sl h = some (t, j, o, n)) (hi : mi_ix i n = some k) (hd : decode (mi_cd y) pc = .ok (.iastore, 1)) (hV : mi_V p l e R s m args below meth c cells slots Q ad D cI cII cN L xs y (pc + 1) (ls) (r) (mi_set M t j (o + k) x)) : mi_V p l e R s m args below meth c cells slots Q ad D cI cII cN L xs y (pc) (ls) (.inl x :: .inl i :: .inr (.inr h) :: r) (M) := by
  intro H locs A hR hS hl hol hos
  obtain ⟨hx, hb, hml, hown, hts, hK, -, hinj, -⟩ := C
  obtain ⟨i1, i2, i3⟩ := mi_ix_in hi
  have hext : ¬ (h.1 = 50 ∨ h.1 = 60 ∨ h.1 = 61) := by
    intro he
    unfold mi_sl at hs
    split at hs <;> first | (simp at he; done) | cases hs
  have hh := mi_okv_own hos.2.2.1 hext
  obtain ⟨q0, hq0, hq1⟩ := mi_ws_at (ad := ad) (cI := cI) (cII := cII) (cN := cN) (M := M) hh
  rw [mi_ec_arr hs] at hq0
  have ht := mi_sl_t hs
  refine va_iast (D := D) (cl := vwCl) (ws := mi_ws ad cI cII cN M) hx hb hK.1 (mi_P hR.1) (mi_D hinj) hS q0 0 hq0 rfl i1 hd (fun H1 locs1 hP1 _ hS1 => ?_)
  refine hV H1 locs1 A ⟨mi_P_set hq1 hP1 ?_ (fun h' hh' hne => ?_), hR.2.1, fun j' hj => ?_, ?_⟩ hS1 hl hol hos.2.2.2
  · rw [mi_ec_ast hs i3, i2]
  · exact mi_ec_set hh' (by rw [mi_own_s' hh hs i3]; exact hne.symm)
  · rw [mi_set_ne fun q => ht.1 q.1.symm]; exact hR.2.2.1 j' hj
  · rw [mi_set_ne fun q => ht.2 q.1.symm]; exact hR.2.2.2
theorem ms_aaload (C : mi_Cx y p R s m args c cells slots ad D cI cII cN L xs) {n k : Nat} {f : Nat → mHd} {h : mHd} {i : Int32} (hr : mi_rr h M = some (n, f)) (hi : mi_ix i n = some k) (hd : decode (mi_cd y) pc = .ok (.aaload, 1)) (hV : mi_V p l e R s m args below meth c cells slots Q ad D cI cII cN L xs y (pc + 1) (ls) (.inr (.inr (f k)) :: r) (M)) : mi_V p l e R s m args below meth c cells slots Q ad D cI cII cN L xs y (pc) (ls) (.inl i :: .inr (.inr h) :: r) (M) := by
  intro H locs A hR hS hl hol hos
  obtain ⟨hx, hb, hml, hown, hts, hK, -⟩ := C
  obtain ⟨i1, i2, i3⟩ := mi_ix_in hi
  have hext : ¬ (h.1 = 50 ∨ h.1 = 60 ∨ h.1 = 61) ∧ Nat.blt h.1 4 = false := by
    unfold mi_rr at hr
    split at hr <;> first | exact ⟨by simp, rfl⟩ | cases hr
  have hh := mi_okv_own hos.2.1 hext.1
  have hat := hR.1 h hh
  have hec : mi_ec ad cI cII cN M h = .inl ((match Nat.beq h.1 10 with | true => cN | false => cII), n, .inr (.inr (.inr (.inr fun k => if k < n then some (ad (f k)) else none)))) := by
    unfold mi_ec
    rw [hext.2, hr]
    rfl
  rw [hec] at hat
  have kk := hV H locs A hR hS hl hol ⟨Or.inl (mi_rr_ok hh hR.2.1 hr i3), hos.2.2⟩
  have hv : ∀ cA : ClassId, (vp_cell cA (n, .inr (.inr (.inr (.inr fun k => if k < n then some (ad (f k)) else none))))).slots[i.toNatClampNeg]? = some (mi_emb ad (.inr (.inr (f k)))) := fun cA => by
    rw [vp_cell_q]
    rw [arrV_read _ _ (by rw [← i2]; exact i3), ← i2, if_pos i3]
    rfl
  have hsz : ∀ cA : ClassId, ¬ (i < 0 ∨ (vp_cell cA (n, .inr (.inr (.inr (.inr fun k => if k < n then some (ad (f k)) else none))))).slots.size ≤ i.toNatClampNeg) := fun cA => by
    rw [vp_cell_q, arrV_size]; exact i1
  cases h10 : Nat.beq h.1 10 with
  | true =>
    rw [h10] at hat
    exact W.aald (v := mi_emb ad (.inr (.inr (f k)))) (ty := .object "SlipStore$Net") hx hb hat ((hK.1.2 2 _ rfl).1 n (fun j => va_rf (if j < n then some (ad (f j)) else none))) rfl (fun q => by cases q) (hsz cN) (hv cN) rfl rfl hd kk
  | false =>
    rw [h10] at hat
    exact W.aald (v := mi_emb ad (.inr (.inr (f k)))) (ty := .array .int) hx hb hat ((hK.1.2 1 _ rfl).1 n (fun j => va_rf (if j < n then some (ad (f j)) else none))) rfl (fun q => by cases q) (hsz cII) (hv cII) rfl rfl hd kk
theorem ms_aastore (C : mi_Cx y p R s m args c cells slots ad D cI cII cN L xs) {j j2 a b k : Nat} {i : Int32} (hi : mi_ix i 5 = some k) (hd : decode (mi_cd y) pc = .ok (.aastore, 1)) (hV : mi_V p l e R s m args below meth c cells slots Q ad D cI cII cN L xs y (pc + 1) (ls) (r) (mi_setS M (2 + k) j)) : mi_V p l e R s m args below meth c cells slots Q ad D cI cII cN L xs y (pc) (ls) (.inr (.inr (0, j, j2)) :: .inl i :: .inr (.inr (10, a, b)) :: r) (M) := by
  intro H locs A hR hS hl hol hos
  obtain ⟨hx, hb, hml, hown, hts, hK, -, hinj, -⟩ := C
  obtain ⟨i1, i2, i3⟩ := mi_ix_in hi
  have hv := mi_okv_own hos.1 (by simp)
  have hh := mi_okv_own hos.2.2.1 (by simp)
  have e10 := (mi_inv hh).2.2.2.1 rfl
  cases e10
  have ej : j2 = 0 := (mi_inv hv).2.2.2.2.1 rfl
  subst ej
  have hj : j < 7 := (mi_inv hv).1
  obtain ⟨q0, hq0, hq1⟩ := mi_ws_at (ad := ad) (cI := cI) (cII := cII) (cN := cN) (M := M) hh
  obtain ⟨qk, hqk, -⟩ := mi_ws_at (ad := ad) (cI := cI) (cII := cII) (cN := cN) (M := M) hv
  refine va_astq (D := D) (cl := vwCl) (ws := mi_ws ad cI cII cN M) (cA := cN) (r := (RX0, TX0, 8)) (n := 5) (v := ad (0, j, 0)) (f := fun k => if k < 5 then some (ad (0, M.2.1 (2 + k), 0)) else none) hx hb hK.1 (mi_P hR.1) (mi_D hinj) hS q0 2 qk 0 hq0 rfl hqk rfl i1 hd (fun H1 locs1 hP1 _ hS1 => ?_)
  refine hV H1 locs1 A ⟨mi_P_set hq1 hP1 ?_ (fun h' hh' hne => ?_), fun k' hk' => ?_, hR.2.2⟩ hS1 hl hol hos.2.2.2
  · show (.inl (cN, 5, .inr (.inr (.inr (.inr fun k' => if k' < 5 then some (ad (0, va_up M.2.1 (2 + k) j (2 + k'), 0)) else none)))) : va_E) = _
    refine congrArg (fun z => (.inl (cN, 5, .inr (.inr (.inr (.inr z)))) : va_E)) (funext fun k' => ?_)
    rw [← i2]
    unfold va_up
    by_cases e : k' = k
    · subst e
      rw [if_pos i3, if_pos rfl, if_pos rfl]
    · rw [if_neg e]
      by_cases hk : k' < 5
      · show (if k' < 5 then some (ad (0, if 2 + k' = 2 + k then j else M.2.1 (2 + k'), 0)) else none) = if k' < 5 then some (ad (0, M.2.1 (2 + k'), 0)) else none
        rw [if_pos hk, if_pos hk, if_neg (by omega)]
      · show (if k' < 5 then some (ad (0, if 2 + k' = 2 + k then j else M.2.1 (2 + k'), 0)) else none) = if k' < 5 then some (ad (0, M.2.1 (2 + k'), 0)) else none
        rw [if_neg hk, if_neg hk]
  · exact mi_ec_D hh' (fun _ _ _ _ => rfl) (fun _ _ => mi_fR_S (Or.inr ⟨if_neg (by omega), if_neg (by omega)⟩)) (fun _ => rfl) (mi_rr_S fun e => absurd ((mi_inv hh').2.2.2.1 e) hne)
  · show va_up M.2.1 (2 + k) j k' < 7
    unfold va_up
    by_cases e : k' = 2 + k
    · rw [if_pos e]; exact hj
    · rw [if_neg e]; exact hR.2.1 k' hk'
theorem ms_getstatic (C : mi_Cx y p R s m args c cells slots ad D cI cII cN L xs) {k : Nat} {t : Nat} (hk : mi_oc y = 0 ∧ ((k = 98 ∧ t = 60) ∨ (k = 101 ∧ t = 61))) (hd : decode (mi_cd y) pc = .ok (.getstatic k, 3)) (hV : mi_V p l e R s m args below meth c cells slots Q ad D cI cII cN L xs y (pc + 3) (ls) (.inr (.inr (t, 0, 0)) :: r) (M)) : mi_V p l e R s m args below meth c cells slots Q ad D cI cII cN L xs y (pc) (ls) (r) (M) := by
  intro H locs A hR hS hl hol hos
  obtain ⟨hx, hb, hml, hown, hts, hK, -⟩ := C
  obtain ⟨ho, hk⟩ := hk
  rw [ho] at hown
  rcases hk with ⟨rfl, rfl⟩ | ⟨rfl, rfl⟩
  · exact va_getsN hx hb hK.2.2.2.2.1 hS hown (va_Nw.use rfl hK.2.2.1) (fun _ h9 => h9) hd (hV H locs A hR hS hl hol ⟨Or.inr (Or.inr (Or.inl rfl)), hos⟩)
  · exact va_getsN hx hb hK.2.2.2.2.2.2.1 hS hown (va_Nw.use rfl hK.2.2.2.1) (fun _ h9 => h9) hd (hV H locs A hR hS hl hol ⟨Or.inr (Or.inr (Or.inr rfl)), hos⟩)
theorem ms_ldc2 (C : mi_Cx y p R s m args c cells slots ad D cI cII cN L xs) {k : Nat} {v : Int64} (hk : mi_lc3 mi_lcs (mi_oc y) k = some v) (hd : decode (mi_cd y) pc = .ok (.ldc2_w k, 3)) (hV : mi_V p l e R s m args below meth c cells slots Q ad D cI cII cN L xs y (pc + 3) (ls) (.inr (.inl v) :: r) (M)) : mi_V p l e R s m args below meth c cells slots Q ad D cI cII cN L xs y (pc) (ls) (r) (M) := by
  intro H locs A hR hS hl hol hos
  obtain ⟨hx, hb, hml, hown, hts, hK, -⟩ := C
  exact lv_ldc2 hx hb hown (hts _ (mi_w_lc _ (List.mem_map.mpr ⟨_, mi_lc3_mem _ _ _ _ hk, rfl⟩))) hd (hV H locs A hR hS hl hol ⟨trivial, hos⟩)
theorem ms_table (C : mi_Cx y p R s m args c cells slots ad D cI cII cN L xs) {x : Int32} {d lo hi : Int} {offs : Array Int} {n : Nat} (hok : mi_lnok pc (.tableswitch d lo hi offs) n = true) (hd : decode (mi_cd y) pc = .ok (.tableswitch d lo hi offs, n)) (hV : mi_V p l e R s m args below meth c cells slots Q ad D cI cII cN L xs y (mi_sw x lo (offs.toList.map (mi_tg pc)) (mi_tg pc d)) (ls) (r) (M)) : mi_V p l e R s m args below meth c cells slots Q ad D cI cII cN L xs y (pc) (ls) (.inl x :: r) (M) := by
  intro H locs A hR hS hl hol hos
  obtain ⟨hx, hb, -⟩ := C
  have kk := hV H locs A hR hS hl hol hos.2
  unfold mi_lnok at hok
  simp only [Bool.and_eq_true, decide_eq_true_eq, List.all_eq_true] at hok
  obtain ⟨h1, h2, h3, h4, h5⟩ := hok
  have hlen : (offs.toList.map (mi_tg pc)).length = offs.size := by simp
  have sp := mi_sw_spec (x := x) (d := mi_tg pc d) (offs.toList.map (mi_tg pc)) lo h4 (by rw [hlen]; omega)
  rw [hlen] at sp
  by_cases hin : x.toInt < lo ∨ hi < x.toInt
  · rw [sp.1 (by omega)] at kk
    exact lv_tableOut hx hb hd hin (by unfold mi_tg; omega) kk
  · have h6 := sp.2 (by omega) (by omega)
    rw [List.getElem?_map] at h6
    cases ho : offs.toList[(x.toInt - lo).toNat]? with
    | none => rw [ho] at h6; cases h6
    | some off =>
      rw [ho] at h6
      have e := Option.some.inj h6
      have hpos := h2 off (List.mem_of_getElem? ho)
      exact lv_tableIn (tgt := mi_sw x lo (offs.toList.map (mi_tg pc)) (mi_tg pc d)) hx hb hd (by omega) (by omega) (by rw [← Array.getElem?_toList]; exact ho) (by rw [← e]; unfold mi_tg; omega) kk
theorem mi_cats_sum : ∀ (r : List mV), ((r.map (mi_emb ad)).map fun v => v.category).sum = mi_cats r
  | [] => rfl
  | v :: r => by
    rw [List.map_cons, List.map_cons, List.sum_cons, mi_cats_sum r, mi_cat, mi_cats]
    cases mi_wide v <;> rfl
theorem ms_min (C : mi_Cx y p R s m args c cells slots ad D cI cII cN L xs) {a b : Int32} {k z : Nat} (hk : mi_f3 mi_mls (mi_oc y) k = some (3, z)) (hc : mi_cats r ≤ 8) (hf : 1 ≤ mi_rf y) (hl2 : 21 ≤ mi_rl y) (hd : decode (mi_cd y) pc = .ok (.invokestatic k, 3)) (hV : mi_V p l e R s m args below meth c cells slots Q ad D cI cII cN L xs y (pc + 3) (ls) (.inl (if b < a then b else a) :: r) (M)) : mi_V p l e R s m args below meth c cells slots Q ad D cI cII cN L xs y (pc) (ls) (.inl b :: .inl a :: r) (M) := by
  intro H locs A hR hS hl hol hos
  obtain ⟨hx, hb, hml, hown, hts, hK, hrm, -, hcs⟩ := C
  have hw := mi_w_ml _ (mi_f3_mem _ _ _ _ _ hk)
  exact va_mmin hx hb (hml.trans hl.1.symm) hown (hts _ (hw _ (by simp [mi_mlw]))) (hts _ (hw _ (by simp [mi_mlw]))) (hts _ (hw _ (by simp [mi_mlw]))) (hts _ (hw _ (by simp [mi_mlw]))) (by omega) (by rw [mi_cats_sum]; omega) hcs.1 hcs.2 hd (hV H locs A hR hS hl hol ⟨trivial, hos.2.2⟩)
theorem ms_max (C : mi_Cx y p R s m args c cells slots ad D cI cII cN L xs) {a b : Int32} {k z : Nat} (hk : mi_f3 mi_mls (mi_oc y) k = some (4, z)) (hc : mi_cats r ≤ 8) (hf : 1 ≤ mi_rf y) (hl2 : 21 ≤ mi_rl y) (hd : decode (mi_cd y) pc = .ok (.invokestatic k, 3)) (hV : mi_V p l e R s m args below meth c cells slots Q ad D cI cII cN L xs y (pc + 3) (ls) (.inl (if a < b then b else a) :: r) (M)) : mi_V p l e R s m args below meth c cells slots Q ad D cI cII cN L xs y (pc) (ls) (.inl b :: .inl a :: r) (M) := by
  intro H locs A hR hS hl hol hos
  obtain ⟨hx, hb, hml, hown, hts, hK, hrm, -, hcs⟩ := C
  have hw := mi_w_ml _ (mi_f3_mem _ _ _ _ _ hk)
  exact va_mmax hx hb (hml.trans hl.1.symm) hown (hts _ (hw _ (by simp [mi_mlw]))) (hts _ (hw _ (by simp [mi_mlw]))) (hts _ (hw _ (by simp [mi_mlw]))) (hts _ (hw _ (by simp [mi_mlw]))) (by omega) (by rw [mi_cats_sum]; omega) hcs.1 hcs.2 hd (hV H locs A hR hS hl hol ⟨trivial, hos.2.2⟩)
theorem ms_abs (C : mi_Cx y p R s m args c cells slots ad D cI cII cN L xs) {a : Int32} {k z : Nat} (hk : mi_f3 mi_mls (mi_oc y) k = some (5, z)) (hc : mi_cats r ≤ 8) (hf : 1 ≤ mi_rf y) (hl2 : 21 ≤ mi_rl y) (hd : decode (mi_cd y) pc = .ok (.invokestatic k, 3)) (hV : mi_V p l e R s m args below meth c cells slots Q ad D cI cII cN L xs y (pc + 3) (ls) (.inl (if 0 ≤ a then a else 0 - a) :: r) (M)) : mi_V p l e R s m args below meth c cells slots Q ad D cI cII cN L xs y (pc) (ls) (.inl a :: r) (M) := by
  intro H locs A hR hS hl hol hos
  obtain ⟨hx, hb, hml, hown, hts, hK, hrm, -, hcs⟩ := C
  have hw := mi_w_ml _ (mi_f3_mem _ _ _ _ _ hk)
  exact va_mabs hx hb (hml.trans hl.1.symm) hown (hts _ (hw _ (by simp [mi_mlw]))) (hts _ (hw _ (by simp [mi_mlw]))) (hts _ (hw _ (by simp [mi_mlw]))) (hts _ (hw _ (by simp [mi_mlw]))) (by omega) (by rw [mi_cats_sum]; omega) hcs.1 hcs.2 hd (hV H locs A hR hS hl hol ⟨trivial, hos.2⟩)
theorem mi_cpy_ow {M : mM} {t0 j0 o0 t j o n : Nat} {t' j' p' : Nat} (h : ¬ (t' = t ∧ j' = j ∧ o ≤ p' ∧ p' < o + n)) : (mi_cpy M t0 j0 o0 t j o n).1 t' j' p' = M.1 t' j' p' := by
  unfold mi_cpy mi_up
  by_cases h1 : t' = t ∧ j' = j
  · simp only [h1, and_self, if_true]
    rw [if_neg (fun q => h ⟨h1.1, h1.2, q⟩)]
  · simp only [h1, if_false]
theorem mi_cpy_in {M : mM} {t0 j0 o0 t j o n k : Nat} (h : k < n) : (mi_cpy M t0 j0 o0 t j o n).1 t j (o + k) = M.1 t0 j0 (o0 + k) := by
  unfold mi_cpy mi_up
  simp only [and_self, if_true]
  rw [if_pos ⟨by omega, by omega⟩, show o + k - o = k by omega]
theorem ms_copy (C : mi_Cx y p R s m args c cells slots ad D cI cII cN L xs) {k z : Nat} {h0 h1 : mHd} {sp dp n : Int32} {M' : mM} (hk : mi_f3 mi_mls (mi_oc y) k = some (6, z)) (hac : mi_ac h0 h1 sp dp n M = some M') (hc : mi_cats r ≤ 8) (hf : 1 ≤ mi_rf y) (hl2 : 60 ≤ mi_rl y) (hd : decode (mi_cd y) pc = .ok (.invokestatic k, 3)) (hV : mi_V p l e R s m args below meth c cells slots Q ad D cI cII cN L xs y (pc + 3) (ls) (r) (M')) : mi_V p l e R s m args below meth c cells slots Q ad D cI cII cN L xs y (pc) (ls) (.inl n :: .inl dp :: .inr (.inr h1) :: .inl sp :: .inr (.inr h0) :: r) (M) := by
  intro H locs A hR hS hl hol hos
  obtain ⟨hx, hb, hml, hown, hts, hK, hrm, hinj, hcs⟩ := C
  have hw := mi_w_ml _ (mi_f3_mem _ _ _ _ _ hk)
  unfold mi_ac at hac
  split at hac
  · next t0 j0 o0 n0 t j o n1 e0 e1 =>
    by_cases hcnd : h0 ≠ h1 ∧ sp = 0 ∧ dp = 0 ∧ n0 = n1 ∧ n = Int32.ofNat n0
    · rw [if_pos hcnd] at hac
      cases hac
      obtain ⟨hne, rfl, rfl, rfl, rfl⟩ := hcnd
      have hx0 : ∀ {h : mHd} {q : Nat × Nat × Nat × Nat}, mi_sl h = some q → ¬ (h.1 = 50 ∨ h.1 = 60 ∨ h.1 = 61) := fun {h q} hs he => by
        unfold mi_sl at hs
        split at hs <;> first | (simp at he; done) | cases hs
      have hn0 : n0 < 2 ^ 31 := by
        unfold mi_sl at e0
        split at e0 <;> cases e0 <;> decide
      have hh0 := mi_okv_own hos.2.2.2.2.1 (hx0 e0)
      have hh1 := mi_okv_own hos.2.2.1 (hx0 e1)
      obtain ⟨q0, hq0, -⟩ := mi_ws_at (ad := ad) (cI := cI) (cII := cII) (cN := cN) (M := M) hh0
      obtain ⟨q1, hq1, hq1'⟩ := mi_ws_at (ad := ad) (cI := cI) (cII := cII) (cN := cN) (M := M) hh1
      rw [mi_ec_arr e0] at hq0
      rw [mi_ec_arr e1] at hq1
      have hcl : (Int32.ofNat n0).toNatClampNeg = n0 := nI_clamp hn0
      have hnn : ¬ Int32.ofNat n0 < 0 := nI_pos hn0
      have ht := mi_sl_t e1
      have z0 : (0 : Int32).toNatClampNeg = 0 := rfl
      refine va_copyi (D := D) (cl := vwCl) (ws := mi_ws ad cI cII cN M) (ty := .int) (c0 := cI) (c1 := cI) hx hb (hml.trans hl.1.symm) hown (hts _ (hw _ (by simp [mi_mlw]))) (hts _ (hw _ (by simp [mi_mlw]))) (hts _ (hw _ (by simp [mi_mlw]))) (hts _ (hw _ (by simp [mi_mlw]))) hK.1 (mi_P hR.1) (mi_D hinj) hS q0 q1 0 0 hq0 hq1 rfl rfl rfl (by decide) (by decide) hnn (by rw [z0, hcl]; omega) (by rw [z0, hcl]; omega) (fun i _ => rfl) (by omega) ?_ hd (fun H1 locs1 hP1 _ hS1 => ?_)
      · rw [mi_cats_sum]
        have : nativeFrameWords "java/lang/System" "arraycopy" 5 ≤ 7 := by decide
        omega
      · refine hV H1 locs1 A ⟨mi_P_set hq1' hP1 ?_ (fun h' hh' hne' => ?_), hR.2.1, fun j' hj => ?_, ?_⟩ hS1 hl hol hos.2.2.2.2.2
        · rw [mi_ec_arr e1]
          refine congrArg (fun z => (.inl (cI, n0, .inl z) : va_E)) (funext fun i => ?_)
          unfold va_cpy
          rw [z0, hcl]
          by_cases hi : i < n0
          · rw [if_pos hi, mi_cpy_in hi, if_pos ⟨Nat.zero_le _, by omega⟩]
            show _ = if 0 + (i - 0) < n0 then M.1 t0 j0 (o0 + (0 + (i - 0))) else 0
            rw [show 0 + (i - 0) = i by omega, if_pos hi]
          · rw [if_neg hi, if_neg (by omega)]
            exact (if_neg hi).symm
        · refine mi_ec_D hh' (fun t' j' p' ho => mi_cpy_ow fun ⟨a1, a2, a3, a4⟩ => hne' ?_) (fun _ _ => rfl) (fun _ => rfl) (mi_rr_D _ _ _ _)
          have := mi_own_s' hh1 e1 (k := p' - o) (by omega)
          rw [show o + (p' - o) = p' by omega, ← a1, ← a2, ho] at this
          exact this
        · rw [mi_cpy_ow fun q => ht.1 q.1.symm]; exact hR.2.2.1 j' hj
        · rw [mi_cpy_ow fun q => ht.2 q.1.symm]; exact hR.2.2.2
    · rw [if_neg hcnd] at hac; cases hac
  · cases hac
end MM
