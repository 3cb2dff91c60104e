theorem mi_step_inv {p : Program} {l : Launch} {e : Env} {R : Room} {s : State} {m : MethodId} {args : Array Value} {below : List Frame} {meth : Method} {c : Code} {cells slots : Nat} {Q : State → Prop} {ad : mHd → Nat} {D : va_G} {cI cII cN : ClassId} {L : Nat} {xs : Nat → Int32} {y pc : Nat} {ls : mLs} {st : List mV} {M : mM} {o : mO} (hy : y < 144) (C : mi_Cx y p R s m args c cells slots ad D cI cII cN L xs) (h : mi_step y pc ls st M = some o) : mi_SI p l e R s m args below meth c cells slots Q ad D cI cII cN L xs y pc ls st M o := by
  unfold mi_step at h
  cases hat : mi_at y pc with
  | none => rw [hat] at h; cases h
  | some i =>
    rw [hat] at h
    simp only at h
    obtain ⟨n, hd, hok⟩ := mi_dec hy hat
    clear hat
    cases i
    case iconst => exact mi_si_iconst C hd hok h
    case bipush => exact mi_si_bipush C hd hok h
    case sipush => exact mi_si_sipush C hd hok h
    case ldc2_w => exact mi_si_ldc2_w C hd hok h
    case iload_n => exact mi_si_iload_n C hd hok h
    case iload => exact mi_si_iload C hd hok h
    case lload_n => exact mi_si_lload_n C hd hok h
    case aload_n => exact mi_si_aload_n C hd hok h
    case aload => exact mi_si_aload C hd hok h
    case istore_n => exact mi_si_istore_n C hd hok h
    case istore => exact mi_si_istore C hd hok h
    case astore_n => exact mi_si_astore_n C hd hok h
    case astore => exact mi_si_astore C hd hok h
    case lstore_n => exact mi_si_lstore_n C hd hok h
    case iinc => exact mi_si_iinc C hd hok h
    case iadd => exact mi_si_iadd C hd hok h
    case isub => exact mi_si_isub C hd hok h
    case imul => exact mi_si_imul C hd hok h
    case iand => exact mi_si_iand C hd hok h
    case ior => exact mi_si_ior C hd hok h
    case ishl => exact mi_si_ishl C hd hok h
    case ishr => exact mi_si_ishr C hd hok h
    case idiv => exact mi_si_idiv C hd hok h
    case irem => exact mi_si_irem C hd hok h
    case ineg => exact mi_si_ineg C hd hok h
    case i2l => exact mi_si_i2l C hd hok h
    case ladd => exact mi_si_ladd C hd hok h
    case lmul => exact mi_si_lmul C hd hok h
    case lcmp => exact mi_si_lcmp C hd hok h
    case dup => exact mi_si_dup C hd hok h
    case pop => exact mi_si_pop C hd hok h
    case dup2 => exact mi_si_dup2 C hd hok h
    case ifCond => exact mi_si_ifCond C hd hok h
    case if_icmp => exact mi_si_if_icmp C hd hok h
    case goto => exact mi_si_goto C hd hok h
    case tableswitch => exact mi_si_tableswitch C hd hok h
    case getfield => exact mi_si_getfield C hd hok h
    case putfield => exact mi_si_putfield C hd hok h
    case getstatic => exact mi_si_getstatic C hd hok h
    case arraylength => exact mi_si_arraylength C hd hok h
    case iaload => exact mi_si_iaload C hd hok h
    case aaload => exact mi_si_aaload C hd hok h
    case iastore => exact mi_si_iastore C hd hok h
    case aastore => exact mi_si_aastore C hd hok h
    case invokevirtual => exact mi_si_invokevirtual C hd hok h
    case invokestatic => exact mi_si_invokestatic C hd hok h
    case ireturn => exact mi_si_ireturn C hd hok h
    case lreturn => exact mi_si_lreturn C hd hok h
    case return_ => exact mi_si_return_ C hd hok h
    all_goals cases h

theorem mi_pop_sp : ∀ (n : Nat) (st acc as r : List mV), mi_pop n st acc = some (as, r) → ∃ pre : List mV, st = pre ++ r ∧ as = pre.reverse ++ acc ∧ pre.length = n
  | 0, st, acc, as, r, h => by cases h; exact ⟨[], rfl, rfl, rfl⟩
  | n + 1, [], acc, as, r, h => by cases h
  | n + 1, v :: st, acc, as, r, h => by
    obtain ⟨pre, h1, h2, h3⟩ := mi_pop_sp n st (v :: acc) as r h
    exact ⟨v :: pre, by rw [h1]; rfl, by rw [h2]; simp, by simp [h3]⟩
theorem mi_pop_st {n : Nat} {st as r : List mV} (h : mi_pop n st [] = some (as, r)) : st = as.reverse ++ r ∧ as.length = n := by
  obtain ⟨pre, h1, h2, h3⟩ := mi_pop_sp n st [] as r h
  rw [List.append_nil] at h2
  exact ⟨by rw [h2, List.reverse_reverse]; exact h1, by rw [h2, List.length_reverse]; exact h3⟩
theorem mi_oks_app : ∀ (a b : List mV), mi_oks (a ++ b) ↔ mi_oks a ∧ mi_oks b
  | [], b => ⟨fun h => ⟨trivial, h⟩, fun h => h.2⟩
  | v :: a, b => by
    show mi_okv v ∧ mi_oks (a ++ b) ↔ (mi_okv v ∧ mi_oks a) ∧ mi_oks b
    rw [mi_oks_app a b, and_assoc]
theorem mi_oks_rev {a : List mV} (h : mi_oks a.reverse) : mi_oks a := (mi_oks_mem a).mpr fun q hq => (mi_oks_mem _).mp h q (List.mem_reverse.mpr hq)
theorem mi_ent_el (ad : mHd → Nat) : ∀ (as : List mV) (i : Nat), lv_args i (as.map (mi_emb ad)) = mi_el ad (mi_ent i as)
  | [], _ => rfl
  | v :: as, i => by
    rw [List.map_cons, lv_args, mi_ent, mi_cat]
    show _ = (i, mi_emb ad v) :: mi_el ad _
    rw [← mi_ent_el ad as]
    cases mi_wide v <;> rfl
theorem mi_ent_ok : ∀ (as : List mV) (i : Nat), mi_oks as → mi_okl (mi_ent i as)
  | [], _, _ => trivial
  | v :: as, i, h => ⟨h.1, mi_ent_ok as _ h.2⟩
theorem mi_sl_len (ad : mHd → Nat) : ∀ (as : List mV), (lg_sl (as.map (mi_emb ad))).length = mi_cats as
  | [] => rfl
  | v :: as => by
    have ih := mi_sl_len ad as
    unfold lg_sl at ih ⊢
    rw [List.map_cons, List.flatMap_cons, List.length_append, ih, mi_cats]
    rcases v with x | x | x <;> rfl
def mi_ro (ad : mHd → Nat) (z : Nat) (v : mV) : Option Value := match mi_rt z with
  | none => none
  | some _ => some (mi_emb ad v)
theorem mi_push_ro {ad : mHd → Nat} {z : Nat} {v : mV} {r st' : List mV} (h : mi_push z v r = some st') : (mi_ro ad z v).toList ++ r.map (mi_emb ad) = st'.map (mi_emb ad) ∧ (mi_oks r → mi_oks st') := by
  unfold mi_push at h
  unfold mi_ro
  split at h
  · next e => cases h; rw [e]; exact ⟨rfl, id⟩
  · next e => cases h; rw [e]; exact ⟨rfl, fun q => ⟨trivial, q⟩⟩
  · next e => cases h; rw [e]; exact ⟨rfl, fun q => ⟨trivial, q⟩⟩
  · next e => cases h; rw [e]; exact ⟨rfl, fun q => ⟨trivial, q⟩⟩
  · cases h
theorem mi_rv_ro (ad : mHd → Nat) (z : Nat) (v : mV) : (mi_rv z v).map (mi_emb ad) = (mi_ro ad z v).toList := by
  unfold mi_rv mi_ro
  cases mi_rt z <;> rfl
-- finite facts of the tables
theorem mi_fin1 : (List.range 144).all (fun z => decide (mi_cn (mi_oc z) = (mi_nm z).cls)) = true := by decide +kernel
theorem mi_fin2 : (List.range 143).all (fun z => decide ((mi_nm z).cls = mi_RX (mi_oc z)) && (Nat.blt (mi_oc z) 4 && (plainName (mi_nm z).cls && (decide ((mi_nm z).cls ≠ "java/lang/invoke/MethodHandle") && decide ((mi_nm z).cls ≠ "java/lang/invoke/VarHandle"))))) = true := by decide +kernel
def mi_prm (z : Nat) : Option Nat := (parseMethodDescriptor (mi_nm z).desc).map (fun d => d.parameters.length)
theorem mi_fin3 : mi_mls.all (fun q => match q.2.2.1 with
    | 0 => decide ((mi_prm q.2.2.2).map (· + 1) = some (mi_na q.2.2.2)) && Nat.blt q.2.2.2 143
    | 1 => decide (mi_prm q.2.2.2 = some (mi_na q.2.2.2)) && (Nat.blt q.2.2.2 143 && decide ((mi_nm q.2.2.2).cls = mi_cn q.1))
    | 2 => decide (mi_prm q.2.2.2 = some (mi_na q.2.2.2)) && (Nat.blt q.2.2.2 143 && (decide (mi_nm q.2.2.2 = ⟨"SlipStore", "isWithin", "(III)Z"⟩) && (Nat.beq q.1 0 && Nat.beq q.2.1 84)))
    | _ => true) = true := by decide +kernel
theorem mi_fin1' {z : Nat} (hz : z < 144) : mi_cn (mi_oc z) = (mi_nm z).cls := of_decide_eq_true (List.all_eq_true.mp mi_fin1 z (List.mem_range.mpr hz))
theorem mi_fin2' {z : Nat} (hz : z < 143) : (mi_nm z).cls = mi_RX (mi_oc z) ∧ Nat.blt (mi_oc z) 4 = true ∧ plainName (mi_nm z).cls = true ∧ (mi_nm z).cls ≠ "java/lang/invoke/MethodHandle" ∧ (mi_nm z).cls ≠ "java/lang/invoke/VarHandle" := by
  have h := List.all_eq_true.mp mi_fin2 z (List.mem_range.mpr hz)
  simp only [Bool.and_eq_true, decide_eq_true_eq] at h
  exact h
/-- the method z, from the arguments as and the memory M, answers q -/
def mi_Pc (ad : mHd → Nat) (D : va_G) (cI cII cN : ClassId) (L : Nat) (xs : Nat → Int32) (as : List mV) (M : mM) : Array Value → State → Prop := va_Pc (as.map (mi_emb ad)) (fun U => mi_K ad D cI cII cN L xs U ∧ mi_Rp ad D cI cII cN L xs M U.heap)
def mi_Qc (ad : mHd → Nat) (D : va_G) (cI cII cN : ClassId) (L : Nat) (xs : Nat → Int32) (z : Nat) (q : mV × mM) : Array Value → State → Outcome → State → Prop := fun _ st oc t => oc = .returned (mi_ro ad z q.1) ∧ mi_Rp ad D cI cII cN L xs q.2 t.heap ∧ va_F (mi_A ad) st t
def mi_rm (z : Nat) : Room := { frames := mi_rf z, cells := 0, slots := 0, locals := mi_rl z }
/-- how the body's end is met: any return of it -/
def mi_Hr (p : Program) (l : Launch) (e : Env) (R : Room) (s : State) (m : MethodId) (args : Array Value) (below : List Frame) (meth : Method) (c : Code) (cells slots : Nat) (Q : State → Prop) (ad : mHd → Nat) (D : va_G) (cI cII cN : ClassId) (L : Nat) (xs : Nat → Int32) (y : Nat) (q : mV × mM) : Prop :=
  ∀ (pc' : Nat) (H' : Heap) (locs' : List Loc) (A' : Array Slot), decode (mi_cd y) pc' = .ok (mi_ri y, 1) → mi_rb y q.1 → mi_Rp ad D cI cII cN L xs q.2 H' → va_S (mi_A ad) s.heap H' locs' → W p l e R s m args below meth c H' locs' cells slots Q (F0 m pc' A' ((mi_rv y q.1).map (mi_emb ad)))
/-- a contract out of runs of the small machine -/
theorem mi_met {N : Nat} (ih : ∀ (y : Nat), y < 144 → ∀ {p : Program} {l : Launch} {e : Env} {R : Room} {s : State} {m : MethodId} {args : Array Value} {below : List Frame} {meth : Method} {c : Code} {cells slots : Nat} {Q : State → Prop} {ad : mHd → Nat} {D : va_G} {cI cII cN : ClassId} {L : Nat} {xs : Nat → Int32}, mi_Cx y p R s m args c cells slots ad D cI cII cN L xs → ∀ (pc : Nat) (ls : mLs) (st : List mV) (M : mM) (q : mV × mM), mi_exN N y pc ls st M = some q → mi_Hr p l e R s m args below meth c cells slots Q ad D cI cII cN L xs y q → mi_V p l e R s m args below meth c cells slots Q ad D cI cII cN L xs y pc ls st M)
    (l : Launch) {ad : mHd → Nat} {D : va_G} {cI cII cN : ClassId} {L : Nat} {xs : Nat → Int32} (hinj : mi_inj ad) {z : Nat} (hz : z < 143) {as : List mV} {M : mM} {q : mV × mM} (ho : mi_oks as) (hc : mi_cats as ≤ mi_mx z) (h : mi_exN N z 0 (mi_ent 0 as) [] M = some q) :
    Met l (mi_nm z) (mi_cw z :: mi_gt) (mi_rm z) (mi_Pc ad D cI cII cN L xs as M) (mi_Qc ad D cI cII cN L xs z q) 0 0 (mi_A ad) := by
  refine Met.ofW (cc := mi_cd z) (maxL := mi_mx z) (ret := mi_rt z) (mi_fin2' hz).2.2.1 rfl ?_
  intro p e s m args below meth c s₁ B hml hv
  obtain ⟨rfl, hK, hR⟩ := hv
  have hts := atoms_spec (ws := mi_cw z :: mi_gt) B.pre
  have hown : s.vm.findClass (mi_nm z).cls = some m.cls := findClass_of_methodNamed B.named
  have hlocks := B.notSynchronized
  have hr := B.returns
  have CC : mi_Cx z p (headSpec (mi_cw z :: mi_gt) (mi_rm z)).room s m ((as.map (mi_emb ad)).toArray) c 0 0 ad D cI cII cN L xs := ⟨B.exec, B.bytes, hml, by rw [mi_fin1' (by omega)]; exact hown, fun w hw => hts w (List.mem_cons_of_mem _ hw), hK, ⟨Nat.le_refl _, Nat.le_refl _⟩, hinj, ⟨Nat.zero_le _, Nat.zero_le _⟩⟩
  have hl := lv_entry (as.map (mi_emb ad)) (n := mi_mx z) (by rw [mi_sl_len]; exact hc)
  rw [lg_entry_eq]
  generalize (lg_sl (as.map (mi_emb ad)) ++ List.replicate (mi_mx z - (lg_sl (as.map (mi_emb ad))).length) Slot.unset).toArray = A at hl ⊢
  rw [mi_ent_el] at hl
  refine ih z (by omega) CC 0 (mi_ent 0 as) [] M q h ?_ s.heap [] A hR va_S.rf hl (mi_ent_ok as 0 ho) trivial
  intro pc' H' locs' A' hd hrb hR' hS'
  have hq : ∀ t : State, t.heap = H' → s.WarmedH t.vm → mi_Qc ad D cI cII cN L xs z q ((as.map (mi_emb ad)).toArray) s (.returned (mi_ro ad z q.1)) t := fun t ht _ => ⟨rfl, by rw [ht]; exact hR', hS'.F ht⟩
  obtain ⟨v, M'⟩ := q
  unfold mi_ri at hd
  unfold mi_rb at hrb
  rw [mi_rv_ro]
  unfold mi_ro at hq ⊢
  cases hrt : mi_rt z with
  | none =>
    rw [hrt] at hd hr hq hrb
    exact W.vret B.exec B.bytes hr hq hS'.2.2 hd
  | some ty =>
    rw [hrt] at hd hr hq hrb
    cases ty <;> simp only at hrb
    case boolean =>
      rcases hrb with rfl | rfl
      · exact W.zret B.exec B.bytes hr rfl hq hS'.2.2 hd
      · exact W.zret B.exec B.bytes hr rfl hq hS'.2.2 hd
    case int =>
      obtain ⟨x, rfl⟩ := hrb
      exact W.iret B.exec B.bytes hr hq hS'.2.2 hd
    case long =>
      obtain ⟨x, rfl⟩ := hrb
      exact W.lret B.exec B.bytes hr hq hS'.2.2 hd
theorem mi_blind {ad : mHd → Nat} {D : va_G} {cI cII cN : ClassId} {L : Nat} {xs : Nat → Int32} {as : List mV} {M : mM} : FrameBlind (mi_Pc ad D cI cII cN L xs as M) := fun a U g mk h => ⟨h.1, mi_K_calling h.2.1, h.2.2⟩
/-- behind a call -/
theorem mi_after {p : Program} {l : Launch} {e : Env} {R : Room} {s : State} {m : MethodId} {args : Array Value} {below : List Frame} {meth : Method} {c : Code} {cells slots : Nat} {Q : State → Prop} {ad : mHd → Nat} {D : va_G} {cI cII cN : ClassId} {L : Nat} {xs : Nat → Int32} {y pc z : Nat} {ls : mLs} {r st' : List mV} {q : mV × mM} {H : Heap} {locs : List Loc} {A : Array Slot} {st0 : List Value} {a : Array Value} (hrun : va_Run p l e R s m args below meth c H locs cells slots 0 0 (F0 m pc A st0) (r.map (mi_emb ad)) (mi_Qc ad D cI cII cN L xs z q a) (mi_A ad)) (hS : va_S (mi_A ad) s.heap H locs) (hl : lv_has A (mi_mx y) (mi_el ad ls)) (hol : mi_okl ls) (hor : mi_oks r) (hp : mi_push z q.1 r = some st') (hV : mi_V p l e R s m args below meth c cells slots Q ad D cI cII cN L xs y (pc + 3) ls st' q.2) : W p l e R s m args below meth c H locs cells slots Q (F0 m pc A st0) := by
  intro T hT X
  obtain ⟨v, st₀, t, T', Lo, h0, X', hL, e1, e2, ⟨hv, hR', hz, hk⟩, go⟩ := hrun T hT X
  cases hv
  rw [h0] at hz hk
  obtain ⟨p1, p2⟩ := mi_push_ro (ad := ad) hp
  have hS' : va_S (mi_A ad) s.heap T'.heap (locs ++ Lo) := ⟨Nat.le_trans hS.1 (by rw [e1]; exact hz), fun q h1 h2 => by rw [e1, hk q (Nat.lt_of_lt_of_le h1 hS.1) h2]; exact hS.2.1 q h1 h2, fun q hq => by
    rcases List.mem_append.mp hq with h | h
    · exact hS.2.2 q h
    · exact hL q h⟩
  obtain ⟨t2, a1, b1⟩ := hV T'.heap (locs ++ Lo) A (by rw [e1]; exact hR') hS' hl hol (p2 hor) T' rfl X'
  refine ⟨t2, go t2 ?_, b1⟩
  rw [← p1] at a1
  exact a1
theorem mi_good {z : Nat} (hz : z < 143) {w0 : List Cond} (h0 : ∀ w ∈ w0, w ∈ mi_gt) : GoodIn mi_gt (w0 ++ (mi_cw z :: mi_gt)) := by
  intro w hw
  refine mi_gt_good w ?_
  rcases List.mem_append.mp hw with h | h
  · exact h0 w h
  · rcases List.mem_cons.mp h with h | h
    · rw [h]; exact mi_w_cd hz
    · exact h
/-- THE SMALL MACHINE IS SOUND: what it comes to, the machine comes to -/
theorem mi_sound : ∀ (N y : Nat), y < 144 → ∀ {p : Program} {l : Launch} {e : Env} {R : Room} {s : State} {m : MethodId} {args : Array Value} {below : List Frame} {meth : Method} {c : Code} {cells slots : Nat} {Q : State → Prop} {ad : mHd → Nat} {D : va_G} {cI cII cN : ClassId} {L : Nat} {xs : Nat → Int32}, mi_Cx y p R s m args c cells slots ad D cI cII cN L xs → ∀ (pc : Nat) (ls : mLs) (st : List mV) (M : mM) (q : mV × mM), mi_exN N y pc ls st M = some q → mi_Hr p l e R s m args below meth c cells slots Q ad D cI cII cN L xs y q → mi_V p l e R s m args below meth c cells slots Q ad D cI cII cN L xs y pc ls st M := by
  intro N
  induction N with
  | zero => intro y hy p l e R s m args below meth c cells slots Q ad D cI cII cN L xs C pc ls st M q h; cases h
  | succ N ih =>
    intro y hy p l e R s m args below meth c cells slots Q ad D cI cII cN L xs C pc ls st M q h hret
    rw [mi_exN_S] at h
    rcases hs : mi_step y pc ls st M with _ | ⟨⟨pc', ls', st', M'⟩ | v | ⟨z, as, pc', ls', r⟩⟩ <;> rw [hs] at h
    · cases h
    · exact mi_step_inv hy C hs (ih y hy C _ _ _ _ _ h hret)
    · cases h
      obtain ⟨hd, rfl, hb⟩ := mi_step_inv (p := p) (l := l) (e := e) (R := R) (s := s) (m := m) (args := args) (below := below) (meth := meth) (c := c) (cells := cells) (slots := slots) (Q := Q) hy C hs
      exact fun H locs A hR hS _ _ _ => hret pc H locs A hd hb hR hS
    · obtain ⟨k, d, hf, hkind, hpop, hfit, hcat, hcas, rfl, rfl⟩ := mi_step_inv (p := p) (l := l) (e := e) (R := R) (s := s) (m := m) (args := args) (below := below) (meth := meth) (c := c) (cells := cells) (slots := slots) (Q := Q) hy C hs
      simp only [Option.bind_eq_some_iff] at h
      obtain ⟨qz, h1, st', h2, h3⟩ := h
      have hVn := mi_V_jmp (ih y hy C _ _ _ _ _ h3 hret)
      obtain ⟨hst, hlen⟩ := mi_pop_st hpop
      intro H locs A hR hS hl hol hos
      have hos2 := hos
      rw [hst, mi_oks_app] at hos2
      have hoa := mi_oks_rev hos2.1
      have hor := hos2.2
      have hmem := mi_f3_mem _ _ _ _ _ hf
      have hw := mi_w_ml _ hmem
      have hfin := List.all_eq_true.mp mi_fin3 _ hmem
      obtain ⟨hx, hb, hml, hown, hts, hK, hrm, hinj, hcs⟩ := C
      have hrange : mi_rf z + 1 ≤ R.frames ∧ 8 + (mi_mx z + 11) + mi_rl z ≤ R.locals := by
        unfold mi_fits at hfit
        simp only [Bool.and_eq_true] at hfit
        have a1 := Nat.le_of_ble_eq_true hfit.1
        have a2 := Nat.le_of_ble_eq_true hfit.2
        omega
      have hpre : ∀ U : State, U.heap = H → s.WarmedH U.vm → mi_Pc ad D cI cII cN L xs as M (as.map (mi_emb ad)).toArray U := fun U hU hW => ⟨rfl, mi_K_moved hK hW (fun a h1 h2 => by rw [hU]; exact hS.2.1 a h1 h2), by rw [hU]; exact hR⟩
      rcases hkind with ⟨rfl, hd, hrcv⟩ | ⟨hd2, hd⟩
      · simp only [Bool.and_eq_true, decide_eq_true_eq] at hfin
        have hz : z < 143 := mi_blt hfin.2
        obtain ⟨f1, f2, f3, f4, f5⟩ := mi_fin2' hz
        have hM := mi_met ih l hinj hz hoa hcas h1 (D := D) (cI := cI) (cII := cII) (cN := cN) (L := L) (xs := xs)
        cases as with
        | nil => cases hrcv
        | cons v as' =>
          rcases v with x | x | ⟨t0, j0, i0⟩
          · cases hrcv
          · cases hrcv
          · have ht0 : t0 = mi_oc z := Nat.eq_of_beq_eq_true hrcv
            have h4 := mi_blt f2
            have hh : (t0, j0, i0) ∈ mi_hs := mi_okv_own hoa.1 (by simp only; omega)
            have hat := hR.1 _ hh
            rw [mi_ec_obj (by rw [ht0]; exact f2)] at hat
            have hrc := va_recv (q0 := 0) (ws := [(ad (t0, j0, i0), .inr (t0, (List.range (mi_nf t0)).map fun k => mi_emb ad ((mi_gf t0 k (t0, j0, i0) M).getD (.inl 0))))]) hK.1 (fun i q hq => by
              have h0 : i < 1 := (List.getElem?_eq_some_iff.mp hq).1
              rw [show i = 0 by omega] at hq
              cases hq
              exact hat) (mi_c4 (by rw [ht0]; exact f2)).1 rfl
            obtain ⟨prm, hp1, hp2⟩ : ∃ prm, mi_prm z = some prm ∧ prm + 1 = mi_na z := by
              cases hp : mi_prm z with
              | none => rw [hp] at hfin; cases hfin.1
              | some prm => rw [hp] at hfin; exact ⟨prm, rfl, Option.some.inj hfin.1⟩
            refine mi_after (va_runV (As := as'.map (mi_emb ad)) (rest := r.map (mi_emb ad)) (b := ad (t0, j0, i0)) (C := (mi_nm z).cls) (Ts := mi_gt) (own := mi_cn (mi_oc y)) (nL := mi_mx y) (cc := mi_cd y) ⟨hx, hb, hml, hown, hts⟩ hM (cwV prm hts (mi_good hz ?_) rfl rfl rfl ⟨rfl, f4, f5, hp1⟩ hrange) ⟨mi_blind, ?_, hpre⟩ rfl ?_ hl.1 ?_ (lv_room (by rw [mi_cats_sum]; exact hcat)) hd hcs) hS hl hol hor h2 hVn
            · intro w hw2
              exact hw w hw2
            · rw [f1, ← ht0]; exact hrc
            · rw [List.length_map]
              simp only [List.length_cons] at hlen
              omega
            · show st.map (mi_emb ad) = _
              rw [hst]
              simp [mi_emb]
      · rcases hd2 with rfl | rfl
        · simp only [Bool.and_eq_true, decide_eq_true_eq] at hfin
          have hz : z < 143 := mi_blt hfin.2.1
          obtain ⟨f1, f2, f3, f4, f5⟩ := mi_fin2' hz
          have hM := mi_met ih l hinj hz hoa hcas h1 (D := D) (cI := cI) (cII := cII) (cN := cN) (L := L) (xs := xs)
          refine mi_after (va_runS (As := as.map (mi_emb ad)) (rest := r.map (mi_emb ad)) (Ts := mi_gt) (own := mi_cn (mi_oc y)) (nL := mi_mx y) (cc := mi_cd y) ⟨hx, hb, hml, hown, hts⟩ hM (cwS (mi_na z) hts (mi_good hz ?_) rfl rfl rfl ⟨hfin.2.2, f4, f5, hfin.1⟩ hrange) ⟨mi_blind, hpre⟩ rfl (by rw [List.length_map]; exact hlen) hl.1 ?_ (lv_room (by rw [mi_cats_sum]; exact hcat)) hd hcs) hS hl hol hor h2 hVn
          · intro w hw2
            refine hw w ?_
            simp only [mi_mlw, List.mem_cons, List.not_mem_nil, or_false] at hw2 ⊢
            rcases hw2 with e | e | e
            · exact Or.inl e
            · exact Or.inr (Or.inl e)
            · exact Or.inr (Or.inr (Or.inl e))
          · show st.map (mi_emb ad) = _
            rw [hst]
            simp
        · simp only [Bool.and_eq_true, decide_eq_true_eq] at hfin
          have hz : z < 143 := mi_blt hfin.2.1
          obtain ⟨f1, f2, f3, f4, f5⟩ := mi_fin2' hz
          have hM := mi_met ih l hinj hz hoa hcas h1 (D := D) (cI := cI) (cII := cII) (cN := cN) (L := L) (xs := xs)
          have ho0 := Nat.eq_of_beq_eq_true hfin.2.2.2.1
          have hk84 := Nat.eq_of_beq_eq_true hfin.2.2.2.2
          have hN : va_Nw (.methodLinkNest (mi_cn (mi_oc y)) k (mi_nm z) "SlipStore") s := by
            rw [hfin.2.2.1, ho0, hk84]; exact hK.2.1
          refine mi_after (va_runSN (As := as.map (mi_emb ad)) (rest := r.map (mi_emb ad)) (Ts := mi_gt) (own := mi_cn (mi_oc y)) (nL := mi_mx y) (cc := mi_cd y) (host := "SlipStore") ⟨hx, hb, hml, hown, hts⟩ hM ⟨va_cnB (mi_na z) hts (mi_good (w0 := []) hz (fun w hw2 => by cases hw2)) rfl rfl rfl hN (hts _ (hw _ (by simp [mi_mlw]))) ⟨f4, f5, hfin.1⟩ hrange, hts _ (hw _ (by simp [mi_mlw])), trivial⟩ ⟨mi_blind, hpre⟩ rfl (by rw [List.length_map]; exact hlen) hl.1 ?_ (lv_room (by rw [mi_cats_sum]; exact hcat)) hd hcs) hS hl hol hor h2 hVn
          show st.map (mi_emb ad) = _
          rw [hst]
          simp
