
def mi_ri (y : Nat) : Instr := match mi_rt y with
  | none => .return_
  | some .long => .lreturn
  | some _ => .ireturn
def mi_rv (y : Nat) (v : mV) : List mV := match mi_rt y with
  | none => []
  | some _ => [v]
def mi_rb (y : Nat) (v : mV) : Prop := match mi_rt y with
  | none => v = .inl 0
  | some .int => ∃ x, v = .inl x
  | some .boolean => v = .inl 0 ∨ v = .inl 1
  | some .long => ∃ x, v = .inr (.inl x)
  | some _ => False
/-- what a step of the small machine says of the machine -/
def mi_SI (p : Program) (l : Launch) (e : Env) (R : Room) (s : State) (m : MethodId) (args : Array Value) (below : List Frame) (meth : Method) (c : Code) (cells slots : Nat) (Q : State → Prop) (ad : mHd → Nat) (D : va_G) (cI cII cN : ClassId) (L : Nat) (xs : Nat → Int32) (y pc : Nat) (ls : mLs) (st : List mV) (M : mM) : mO → Prop
  | .inl (pc', ls', st', M') => mi_V p l e R s m args below meth c cells slots Q ad D cI cII cN L xs y pc' ls' st' M' → mi_V p l e R s m args below meth c cells slots Q ad D cI cII cN L xs y pc ls st M
  | .inr (.inl v) => decode (mi_cd y) pc = .ok (mi_ri y, 1) ∧ st = mi_rv y v ∧ mi_rb y v
  | .inr (.inr (z, as, pc', ls', r)) => ∃ k d, mi_f3 mi_mls (mi_oc y) k = some (d, z) ∧ ((d = 0 ∧ decode (mi_cd y) pc = .ok (.invokevirtual k, 3) ∧ mi_rcv z as = true) ∨ ((d = 1 ∨ d = 2) ∧ decode (mi_cd y) pc = .ok (.invokestatic k, 3))) ∧ mi_pop (mi_na z) st [] = some (as, r) ∧ mi_fits y z = true ∧ mi_cats r ≤ 8 ∧ mi_cats as ≤ mi_mx z ∧ pc' = pc + 3 ∧ ls' = mi_jmp y (pc + 3) ls
theorem mi_call_inv {y pc z : Nat} {ls : mLs} {st : List mV} {vt : Bool} {o : mO} (h : mi_call y pc ls st z vt = some o) : ∃ as r, o = .inr (.inr (z, as, pc + 3, mi_jmp y (pc + 3) ls, r)) ∧ mi_pop (mi_na z) st [] = some (as, r) ∧ mi_fits y z = true ∧ mi_cats r ≤ 8 ∧ mi_cats as ≤ mi_mx z ∧ (vt = true → mi_rcv z as = true) := by
  unfold mi_call at h
  cases hp : mi_pop (mi_na z) st [] with
  | none => rw [hp] at h; cases h
  | some q =>
    obtain ⟨as, r⟩ := q
    rw [hp] at h
    simp only at h
    cases hf : mi_fits y z && Nat.ble (mi_cats r) 8 && (!vt || mi_rcv z as) && Nat.ble (mi_cats as) (mi_mx z) with
    | false => rw [hf] at h; cases h
    | true =>
      rw [hf] at h
      cases h
      simp only [Bool.and_eq_true, Bool.or_eq_true, Bool.not_eq_true'] at hf
      refine ⟨as, r, rfl, rfl, hf.1.1.1, Nat.le_of_ble_eq_true hf.1.1.2, Nat.le_of_ble_eq_true hf.2, fun hv => ?_⟩
      rcases hf.1.2 with q | q
      · rw [hv] at q; cases q
      · exact q

theorem mi_si_iconst {p : Program} {l : Launch} {e : Env} {R : Room} {s : State} {m : MethodId} {args : Array Value} {below : List Frame} {meth : Method} {c : Code} {cells slots : Nat} {Q : State → Prop} {ad : mHd → Nat} {D : va_G} {cI cII cN : ClassId} {L : Nat} {xs : Nat → Int32} {y pc : Nat} {ls : mLs} {st : List mV} {M : mM} {o : mO} (C : mi_Cx y p R s m args c cells slots ad D cI cII cN L xs) {k : Int} {n : Nat} (hd : decode (mi_cd y) pc = .ok (.iconst k, n)) (hok : mi_lnok pc (.iconst k) n = true) (h : mi_do y pc ls st M (.iconst k) = some o) : mi_SI p l e R s m args below meth c cells slots Q ad D cI cII cN L xs y pc ls st M o := by
  obtain rfl : n = 1 := Nat.eq_of_beq_eq_true hok
  have hx := C.1
  have hb := C.2.1
  cases h
  exact fun hV => ms_iconst hx hb hd (mi_V_jmp hV)

theorem mi_si_bipush {p : Program} {l : Launch} {e : Env} {R : Room} {s : State} {m : MethodId} {args : Array Value} {below : List Frame} {meth : Method} {c : Code} {cells slots : Nat} {Q : State → Prop} {ad : mHd → Nat} {D : va_G} {cI cII cN : ClassId} {L : Nat} {xs : Nat → Int32} {y pc : Nat} {ls : mLs} {st : List mV} {M : mM} {o : mO} (C : mi_Cx y p R s m args c cells slots ad D cI cII cN L xs) {k : Int} {n : Nat} (hd : decode (mi_cd y) pc = .ok (.bipush k, n)) (hok : mi_lnok pc (.bipush k) n = true) (h : mi_do y pc ls st M (.bipush k) = some o) : mi_SI p l e R s m args below meth c cells slots Q ad D cI cII cN L xs y pc ls st M o := by
  obtain rfl : n = 2 := Nat.eq_of_beq_eq_true hok
  have hx := C.1
  have hb := C.2.1
  cases h
  exact fun hV => ms_bipush hx hb hd (mi_V_jmp hV)

theorem mi_si_sipush {p : Program} {l : Launch} {e : Env} {R : Room} {s : State} {m : MethodId} {args : Array Value} {below : List Frame} {meth : Method} {c : Code} {cells slots : Nat} {Q : State → Prop} {ad : mHd → Nat} {D : va_G} {cI cII cN : ClassId} {L : Nat} {xs : Nat → Int32} {y pc : Nat} {ls : mLs} {st : List mV} {M : mM} {o : mO} (C : mi_Cx y p R s m args c cells slots ad D cI cII cN L xs) {k : Int} {n : Nat} (hd : decode (mi_cd y) pc = .ok (.sipush k, n)) (hok : mi_lnok pc (.sipush k) n = true) (h : mi_do y pc ls st M (.sipush k) = some o) : mi_SI p l e R s m args below meth c cells slots Q ad D cI cII cN L xs y pc ls st M o := by
  obtain rfl : n = 3 := Nat.eq_of_beq_eq_true hok
  have hx := C.1
  have hb := C.2.1
  cases h
  exact fun hV => ms_sipush hx hb hd (mi_V_jmp hV)

theorem mi_si_ldc2_w {p : Program} {l : Launch} {e : Env} {R : Room} {s : State} {m : MethodId} {args : Array Value} {below : List Frame} {meth : Method} {c : Code} {cells slots : Nat} {Q : State → Prop} {ad : mHd → Nat} {D : va_G} {cI cII cN : ClassId} {L : Nat} {xs : Nat → Int32} {y pc : Nat} {ls : mLs} {st : List mV} {M : mM} {o : mO} (C : mi_Cx y p R s m args c cells slots ad D cI cII cN L xs) {k : Nat} {n : Nat} (hd : decode (mi_cd y) pc = .ok (.ldc2_w k, n)) (hok : mi_lnok pc (.ldc2_w k) n = true) (h : mi_do y pc ls st M (.ldc2_w k) = some o) : mi_SI p l e R s m args below meth c cells slots Q ad D cI cII cN L xs y pc ls st M o := by
  obtain rfl : n = 3 := Nat.eq_of_beq_eq_true hok
  have hx := C.1
  have hb := C.2.1
  rcases hk : mi_lc3 mi_lcs (mi_oc y) k with _ | v <;> simp only [mi_do, hk] at h <;> cases h
  exact fun hV => ms_ldc2 C hk hd (mi_V_jmp hV)

theorem mi_si_iload_n {p : Program} {l : Launch} {e : Env} {R : Room} {s : State} {m : MethodId} {args : Array Value} {below : List Frame} {meth : Method} {c : Code} {cells slots : Nat} {Q : State → Prop} {ad : mHd → Nat} {D : va_G} {cI cII cN : ClassId} {L : Nat} {xs : Nat → Int32} {y pc : Nat} {ls : mLs} {st : List mV} {M : mM} {o : mO} (C : mi_Cx y p R s m args c cells slots ad D cI cII cN L xs) {k : Fin 4} {n : Nat} (hd : decode (mi_cd y) pc = .ok (.iload_n k, n)) (hok : mi_lnok pc (.iload_n k) n = true) (h : mi_do y pc ls st M (.iload_n k) = some o) : mi_SI p l e R s m args below meth c cells slots Q ad D cI cII cN L xs y pc ls st M o := by
  obtain rfl : n = 1 := Nat.eq_of_beq_eq_true hok
  have hx := C.1
  have hb := C.2.1
  rcases hk : mi_lg ls k.val with _ | x | x | x <;> simp only [mi_do, hk] at h <;> cases h
  exact fun hV => ms_iload_n hx hb hk hd (mi_V_jmp hV)

theorem mi_si_iload {p : Program} {l : Launch} {e : Env} {R : Room} {s : State} {m : MethodId} {args : Array Value} {below : List Frame} {meth : Method} {c : Code} {cells slots : Nat} {Q : State → Prop} {ad : mHd → Nat} {D : va_G} {cI cII cN : ClassId} {L : Nat} {xs : Nat → Int32} {y pc : Nat} {ls : mLs} {st : List mV} {M : mM} {o : mO} (C : mi_Cx y p R s m args c cells slots ad D cI cII cN L xs) {k : Nat} {n : Nat} (hd : decode (mi_cd y) pc = .ok (.iload k, n)) (hok : mi_lnok pc (.iload k) n = true) (h : mi_do y pc ls st M (.iload k) = some o) : mi_SI p l e R s m args below meth c cells slots Q ad D cI cII cN L xs y pc ls st M o := by
  obtain rfl : n = 2 := Nat.eq_of_beq_eq_true hok
  have hx := C.1
  have hb := C.2.1
  rcases hk : mi_lg ls k with _ | x | x | x <;> simp only [mi_do, hk] at h <;> cases h
  exact fun hV => ms_iload hx hb hk hd (mi_V_jmp hV)

theorem mi_si_lload_n {p : Program} {l : Launch} {e : Env} {R : Room} {s : State} {m : MethodId} {args : Array Value} {below : List Frame} {meth : Method} {c : Code} {cells slots : Nat} {Q : State → Prop} {ad : mHd → Nat} {D : va_G} {cI cII cN : ClassId} {L : Nat} {xs : Nat → Int32} {y pc : Nat} {ls : mLs} {st : List mV} {M : mM} {o : mO} (C : mi_Cx y p R s m args c cells slots ad D cI cII cN L xs) {k : Fin 4} {n : Nat} (hd : decode (mi_cd y) pc = .ok (.lload_n k, n)) (hok : mi_lnok pc (.lload_n k) n = true) (h : mi_do y pc ls st M (.lload_n k) = some o) : mi_SI p l e R s m args below meth c cells slots Q ad D cI cII cN L xs y pc ls st M o := by
  obtain rfl : n = 1 := Nat.eq_of_beq_eq_true hok
  have hx := C.1
  have hb := C.2.1
  rcases hk : mi_lg ls k.val with _ | x | x | x <;> simp only [mi_do, hk] at h <;> cases h
  exact fun hV => ms_lload_n hx hb hk hd (mi_V_jmp hV)

theorem mi_si_aload_n {p : Program} {l : Launch} {e : Env} {R : Room} {s : State} {m : MethodId} {args : Array Value} {below : List Frame} {meth : Method} {c : Code} {cells slots : Nat} {Q : State → Prop} {ad : mHd → Nat} {D : va_G} {cI cII cN : ClassId} {L : Nat} {xs : Nat → Int32} {y pc : Nat} {ls : mLs} {st : List mV} {M : mM} {o : mO} (C : mi_Cx y p R s m args c cells slots ad D cI cII cN L xs) {k : Fin 4} {n : Nat} (hd : decode (mi_cd y) pc = .ok (.aload_n k, n)) (hok : mi_lnok pc (.aload_n k) n = true) (h : mi_do y pc ls st M (.aload_n k) = some o) : mi_SI p l e R s m args below meth c cells slots Q ad D cI cII cN L xs y pc ls st M o := by
  obtain rfl : n = 1 := Nat.eq_of_beq_eq_true hok
  have hx := C.1
  have hb := C.2.1
  rcases hk : mi_lg ls k.val with _ | x | x | x <;> simp only [mi_do, hk] at h <;> cases h
  exact fun hV => ms_aload_n hx hb hk hd (mi_V_jmp hV)

theorem mi_si_aload {p : Program} {l : Launch} {e : Env} {R : Room} {s : State} {m : MethodId} {args : Array Value} {below : List Frame} {meth : Method} {c : Code} {cells slots : Nat} {Q : State → Prop} {ad : mHd → Nat} {D : va_G} {cI cII cN : ClassId} {L : Nat} {xs : Nat → Int32} {y pc : Nat} {ls : mLs} {st : List mV} {M : mM} {o : mO} (C : mi_Cx y p R s m args c cells slots ad D cI cII cN L xs) {k : Nat} {n : Nat} (hd : decode (mi_cd y) pc = .ok (.aload k, n)) (hok : mi_lnok pc (.aload k) n = true) (h : mi_do y pc ls st M (.aload k) = some o) : mi_SI p l e R s m args below meth c cells slots Q ad D cI cII cN L xs y pc ls st M o := by
  obtain rfl : n = 2 := Nat.eq_of_beq_eq_true hok
  have hx := C.1
  have hb := C.2.1
  rcases hk : mi_lg ls k with _ | x | x | x <;> simp only [mi_do, hk] at h <;> cases h
  exact fun hV => ms_aload hx hb hk hd (mi_V_jmp hV)

theorem mi_si_istore_n {p : Program} {l : Launch} {e : Env} {R : Room} {s : State} {m : MethodId} {args : Array Value} {below : List Frame} {meth : Method} {c : Code} {cells slots : Nat} {Q : State → Prop} {ad : mHd → Nat} {D : va_G} {cI cII cN : ClassId} {L : Nat} {xs : Nat → Int32} {y pc : Nat} {ls : mLs} {st : List mV} {M : mM} {o : mO} (C : mi_Cx y p R s m args c cells slots ad D cI cII cN L xs) {k : Fin 4} {n : Nat} (hd : decode (mi_cd y) pc = .ok (.istore_n k, n)) (hok : mi_lnok pc (.istore_n k) n = true) (h : mi_do y pc ls st M (.istore_n k) = some o) : mi_SI p l e R s m args below meth c cells slots Q ad D cI cII cN L xs y pc ls st M o := by
  obtain rfl : n = 1 := Nat.eq_of_beq_eq_true hok
  have hx := C.1
  have hb := C.2.1
  rcases st with _ | ⟨x | x | x, r⟩ <;> rcases hk : Nat.blt k.val (mi_mx y) with _ | _ <;> simp only [mi_do, hk] at h <;> cases h
  exact fun hV => ms_istore_n hx hb hk hd (mi_V_jmp hV)

theorem mi_si_istore {p : Program} {l : Launch} {e : Env} {R : Room} {s : State} {m : MethodId} {args : Array Value} {below : List Frame} {meth : Method} {c : Code} {cells slots : Nat} {Q : State → Prop} {ad : mHd → Nat} {D : va_G} {cI cII cN : ClassId} {L : Nat} {xs : Nat → Int32} {y pc : Nat} {ls : mLs} {st : List mV} {M : mM} {o : mO} (C : mi_Cx y p R s m args c cells slots ad D cI cII cN L xs) {k : Nat} {n : Nat} (hd : decode (mi_cd y) pc = .ok (.istore k, n)) (hok : mi_lnok pc (.istore k) n = true) (h : mi_do y pc ls st M (.istore k) = some o) : mi_SI p l e R s m args below meth c cells slots Q ad D cI cII cN L xs y pc ls st M o := by
  obtain rfl : n = 2 := Nat.eq_of_beq_eq_true hok
  have hx := C.1
  have hb := C.2.1
  rcases st with _ | ⟨x | x | x, r⟩ <;> rcases hk : Nat.blt k (mi_mx y) with _ | _ <;> simp only [mi_do, hk] at h <;> cases h
  exact fun hV => ms_istore hx hb hk hd (mi_V_jmp hV)

theorem mi_si_astore_n {p : Program} {l : Launch} {e : Env} {R : Room} {s : State} {m : MethodId} {args : Array Value} {below : List Frame} {meth : Method} {c : Code} {cells slots : Nat} {Q : State → Prop} {ad : mHd → Nat} {D : va_G} {cI cII cN : ClassId} {L : Nat} {xs : Nat → Int32} {y pc : Nat} {ls : mLs} {st : List mV} {M : mM} {o : mO} (C : mi_Cx y p R s m args c cells slots ad D cI cII cN L xs) {k : Fin 4} {n : Nat} (hd : decode (mi_cd y) pc = .ok (.astore_n k, n)) (hok : mi_lnok pc (.astore_n k) n = true) (h : mi_do y pc ls st M (.astore_n k) = some o) : mi_SI p l e R s m args below meth c cells slots Q ad D cI cII cN L xs y pc ls st M o := by
  obtain rfl : n = 1 := Nat.eq_of_beq_eq_true hok
  have hx := C.1
  have hb := C.2.1
  rcases st with _ | ⟨x | x | x, r⟩ <;> rcases hk : Nat.blt k.val (mi_mx y) with _ | _ <;> simp only [mi_do, hk] at h <;> cases h
  exact fun hV => ms_astore_n hx hb hk hd (mi_V_jmp hV)

theorem mi_si_astore {p : Program} {l : Launch} {e : Env} {R : Room} {s : State} {m : MethodId} {args : Array Value} {below : List Frame} {meth : Method} {c : Code} {cells slots : Nat} {Q : State → Prop} {ad : mHd → Nat} {D : va_G} {cI cII cN : ClassId} {L : Nat} {xs : Nat → Int32} {y pc : Nat} {ls : mLs} {st : List mV} {M : mM} {o : mO} (C : mi_Cx y p R s m args c cells slots ad D cI cII cN L xs) {k : Nat} {n : Nat} (hd : decode (mi_cd y) pc = .ok (.astore k, n)) (hok : mi_lnok pc (.astore k) n = true) (h : mi_do y pc ls st M (.astore k) = some o) : mi_SI p l e R s m args below meth c cells slots Q ad D cI cII cN L xs y pc ls st M o := by
  obtain rfl : n = 2 := Nat.eq_of_beq_eq_true hok
  have hx := C.1
  have hb := C.2.1
  rcases st with _ | ⟨x | x | x, r⟩ <;> rcases hk : Nat.blt k (mi_mx y) with _ | _ <;> simp only [mi_do, hk] at h <;> cases h
  exact fun hV => ms_astore hx hb hk hd (mi_V_jmp hV)

theorem mi_si_lstore_n {p : Program} {l : Launch} {e : Env} {R : Room} {s : State} {m : MethodId} {args : Array Value} {below : List Frame} {meth : Method} {c : Code} {cells slots : Nat} {Q : State → Prop} {ad : mHd → Nat} {D : va_G} {cI cII cN : ClassId} {L : Nat} {xs : Nat → Int32} {y pc : Nat} {ls : mLs} {st : List mV} {M : mM} {o : mO} (C : mi_Cx y p R s m args c cells slots ad D cI cII cN L xs) {k : Fin 4} {n : Nat} (hd : decode (mi_cd y) pc = .ok (.lstore_n k, n)) (hok : mi_lnok pc (.lstore_n k) n = true) (h : mi_do y pc ls st M (.lstore_n k) = some o) : mi_SI p l e R s m args below meth c cells slots Q ad D cI cII cN L xs y pc ls st M o := by
  obtain rfl : n = 1 := Nat.eq_of_beq_eq_true hok
  have hx := C.1
  have hb := C.2.1
  rcases st with _ | ⟨x | x | x, r⟩ <;> rcases hk : Nat.blt (k.val + 1) (mi_mx y) with _ | _ <;> simp only [mi_do, hk] at h <;> cases h
  exact fun hV => ms_lstore_n hx hb hk hd (mi_V_jmp hV)

theorem mi_si_iinc {p : Program} {l : Launch} {e : Env} {R : Room} {s : State} {m : MethodId} {args : Array Value} {below : List Frame} {meth : Method} {c : Code} {cells slots : Nat} {Q : State → Prop} {ad : mHd → Nat} {D : va_G} {cI cII cN : ClassId} {L : Nat} {xs : Nat → Int32} {y pc : Nat} {ls : mLs} {st : List mV} {M : mM} {o : mO} (C : mi_Cx y p R s m args c cells slots ad D cI cII cN L xs) {k : Nat} {i : Int} {n : Nat} (hd : decode (mi_cd y) pc = .ok (.iinc k i, n)) (hok : mi_lnok pc (.iinc k i) n = true) (h : mi_do y pc ls st M (.iinc k i) = some o) : mi_SI p l e R s m args below meth c cells slots Q ad D cI cII cN L xs y pc ls st M o := by
  obtain rfl : n = 3 := Nat.eq_of_beq_eq_true hok
  have hx := C.1
  have hb := C.2.1
  rcases hk : mi_lg ls k with _ | x | x | x <;> rcases hn : Nat.blt k (mi_mx y) with _ | _ <;> simp only [mi_do, hk, hn] at h <;> cases h
  exact fun hV => ms_iinc hx hb hk hn hd (mi_V_jmp hV)

theorem mi_si_iadd {p : Program} {l : Launch} {e : Env} {R : Room} {s : State} {m : MethodId} {args : Array Value} {below : List Frame} {meth : Method} {c : Code} {cells slots : Nat} {Q : State → Prop} {ad : mHd → Nat} {D : va_G} {cI cII cN : ClassId} {L : Nat} {xs : Nat → Int32} {y pc : Nat} {ls : mLs} {st : List mV} {M : mM} {o : mO} (C : mi_Cx y p R s m args c cells slots ad D cI cII cN L xs)  {n : Nat} (hd : decode (mi_cd y) pc = .ok (.iadd, n)) (hok : mi_lnok pc (.iadd) n = true) (h : mi_do y pc ls st M (.iadd) = some o) : mi_SI p l e R s m args below meth c cells slots Q ad D cI cII cN L xs y pc ls st M o := by
  obtain rfl : n = 1 := Nat.eq_of_beq_eq_true hok
  have hx := C.1
  have hb := C.2.1
  rcases st with _ | ⟨b | b | b, _ | ⟨a | a | a, r⟩⟩ <;> cases h
  exact fun hV => ms_iadd hx hb hd (mi_V_jmp hV)

theorem mi_si_isub {p : Program} {l : Launch} {e : Env} {R : Room} {s : State} {m : MethodId} {args : Array Value} {below : List Frame} {meth : Method} {c : Code} {cells slots : Nat} {Q : State → Prop} {ad : mHd → Nat} {D : va_G} {cI cII cN : ClassId} {L : Nat} {xs : Nat → Int32} {y pc : Nat} {ls : mLs} {st : List mV} {M : mM} {o : mO} (C : mi_Cx y p R s m args c cells slots ad D cI cII cN L xs)  {n : Nat} (hd : decode (mi_cd y) pc = .ok (.isub, n)) (hok : mi_lnok pc (.isub) n = true) (h : mi_do y pc ls st M (.isub) = some o) : mi_SI p l e R s m args below meth c cells slots Q ad D cI cII cN L xs y pc ls st M o := by
  obtain rfl : n = 1 := Nat.eq_of_beq_eq_true hok
  have hx := C.1
  have hb := C.2.1
  rcases st with _ | ⟨b | b | b, _ | ⟨a | a | a, r⟩⟩ <;> cases h
  exact fun hV => ms_isub hx hb hd (mi_V_jmp hV)

theorem mi_si_imul {p : Program} {l : Launch} {e : Env} {R : Room} {s : State} {m : MethodId} {args : Array Value} {below : List Frame} {meth : Method} {c : Code} {cells slots : Nat} {Q : State → Prop} {ad : mHd → Nat} {D : va_G} {cI cII cN : ClassId} {L : Nat} {xs : Nat → Int32} {y pc : Nat} {ls : mLs} {st : List mV} {M : mM} {o : mO} (C : mi_Cx y p R s m args c cells slots ad D cI cII cN L xs)  {n : Nat} (hd : decode (mi_cd y) pc = .ok (.imul, n)) (hok : mi_lnok pc (.imul) n = true) (h : mi_do y pc ls st M (.imul) = some o) : mi_SI p l e R s m args below meth c cells slots Q ad D cI cII cN L xs y pc ls st M o := by
  obtain rfl : n = 1 := Nat.eq_of_beq_eq_true hok
  have hx := C.1
  have hb := C.2.1
  rcases st with _ | ⟨b | b | b, _ | ⟨a | a | a, r⟩⟩ <;> cases h
  exact fun hV => ms_imul hx hb hd (mi_V_jmp hV)

theorem mi_si_iand {p : Program} {l : Launch} {e : Env} {R : Room} {s : State} {m : MethodId} {args : Array Value} {below : List Frame} {meth : Method} {c : Code} {cells slots : Nat} {Q : State → Prop} {ad : mHd → Nat} {D : va_G} {cI cII cN : ClassId} {L : Nat} {xs : Nat → Int32} {y pc : Nat} {ls : mLs} {st : List mV} {M : mM} {o : mO} (C : mi_Cx y p R s m args c cells slots ad D cI cII cN L xs)  {n : Nat} (hd : decode (mi_cd y) pc = .ok (.iand, n)) (hok : mi_lnok pc (.iand) n = true) (h : mi_do y pc ls st M (.iand) = some o) : mi_SI p l e R s m args below meth c cells slots Q ad D cI cII cN L xs y pc ls st M o := by
  obtain rfl : n = 1 := Nat.eq_of_beq_eq_true hok
  have hx := C.1
  have hb := C.2.1
  rcases st with _ | ⟨b | b | b, _ | ⟨a | a | a, r⟩⟩ <;> cases h
  exact fun hV => ms_iand hx hb hd (mi_V_jmp hV)

theorem mi_si_ior {p : Program} {l : Launch} {e : Env} {R : Room} {s : State} {m : MethodId} {args : Array Value} {below : List Frame} {meth : Method} {c : Code} {cells slots : Nat} {Q : State → Prop} {ad : mHd → Nat} {D : va_G} {cI cII cN : ClassId} {L : Nat} {xs : Nat → Int32} {y pc : Nat} {ls : mLs} {st : List mV} {M : mM} {o : mO} (C : mi_Cx y p R s m args c cells slots ad D cI cII cN L xs)  {n : Nat} (hd : decode (mi_cd y) pc = .ok (.ior, n)) (hok : mi_lnok pc (.ior) n = true) (h : mi_do y pc ls st M (.ior) = some o) : mi_SI p l e R s m args below meth c cells slots Q ad D cI cII cN L xs y pc ls st M o := by
  obtain rfl : n = 1 := Nat.eq_of_beq_eq_true hok
  have hx := C.1
  have hb := C.2.1
  rcases st with _ | ⟨b | b | b, _ | ⟨a | a | a, r⟩⟩ <;> cases h
  exact fun hV => ms_ior hx hb hd (mi_V_jmp hV)

theorem mi_si_ishl {p : Program} {l : Launch} {e : Env} {R : Room} {s : State} {m : MethodId} {args : Array Value} {below : List Frame} {meth : Method} {c : Code} {cells slots : Nat} {Q : State → Prop} {ad : mHd → Nat} {D : va_G} {cI cII cN : ClassId} {L : Nat} {xs : Nat → Int32} {y pc : Nat} {ls : mLs} {st : List mV} {M : mM} {o : mO} (C : mi_Cx y p R s m args c cells slots ad D cI cII cN L xs)  {n : Nat} (hd : decode (mi_cd y) pc = .ok (.ishl, n)) (hok : mi_lnok pc (.ishl) n = true) (h : mi_do y pc ls st M (.ishl) = some o) : mi_SI p l e R s m args below meth c cells slots Q ad D cI cII cN L xs y pc ls st M o := by
  obtain rfl : n = 1 := Nat.eq_of_beq_eq_true hok
  have hx := C.1
  have hb := C.2.1
  rcases st with _ | ⟨b | b | b, _ | ⟨a | a | a, r⟩⟩ <;> cases h
  exact fun hV => ms_ishl hx hb hd (mi_V_jmp hV)

theorem mi_si_ishr {p : Program} {l : Launch} {e : Env} {R : Room} {s : State} {m : MethodId} {args : Array Value} {below : List Frame} {meth : Method} {c : Code} {cells slots : Nat} {Q : State → Prop} {ad : mHd → Nat} {D : va_G} {cI cII cN : ClassId} {L : Nat} {xs : Nat → Int32} {y pc : Nat} {ls : mLs} {st : List mV} {M : mM} {o : mO} (C : mi_Cx y p R s m args c cells slots ad D cI cII cN L xs)  {n : Nat} (hd : decode (mi_cd y) pc = .ok (.ishr, n)) (hok : mi_lnok pc (.ishr) n = true) (h : mi_do y pc ls st M (.ishr) = some o) : mi_SI p l e R s m args below meth c cells slots Q ad D cI cII cN L xs y pc ls st M o := by
  obtain rfl : n = 1 := Nat.eq_of_beq_eq_true hok
  have hx := C.1
  have hb := C.2.1
  rcases st with _ | ⟨b | b | b, _ | ⟨a | a | a, r⟩⟩ <;> cases h
  exact fun hV => ms_ishr hx hb hd (mi_V_jmp hV)

theorem mi_si_idiv {p : Program} {l : Launch} {e : Env} {R : Room} {s : State} {m : MethodId} {args : Array Value} {below : List Frame} {meth : Method} {c : Code} {cells slots : Nat} {Q : State → Prop} {ad : mHd → Nat} {D : va_G} {cI cII cN : ClassId} {L : Nat} {xs : Nat → Int32} {y pc : Nat} {ls : mLs} {st : List mV} {M : mM} {o : mO} (C : mi_Cx y p R s m args c cells slots ad D cI cII cN L xs)  {n : Nat} (hd : decode (mi_cd y) pc = .ok (.idiv, n)) (hok : mi_lnok pc (.idiv) n = true) (h : mi_do y pc ls st M (.idiv) = some o) : mi_SI p l e R s m args below meth c cells slots Q ad D cI cII cN L xs y pc ls st M o := by
  obtain rfl : n = 1 := Nat.eq_of_beq_eq_true hok
  have hx := C.1
  have hb := C.2.1
  rcases st with _ | ⟨b | b | b, _ | ⟨a | a | a, r⟩⟩ <;> simp only [mi_do] at h <;> first | (cases h; done) | skip
  by_cases hz : b = 0
  · rw [if_pos hz] at h; cases h
  · rw [if_neg hz] at h
    cases h
    exact fun hV => ms_idiv hx hb hz hd (mi_V_jmp hV)

theorem mi_si_irem {p : Program} {l : Launch} {e : Env} {R : Room} {s : State} {m : MethodId} {args : Array Value} {below : List Frame} {meth : Method} {c : Code} {cells slots : Nat} {Q : State → Prop} {ad : mHd → Nat} {D : va_G} {cI cII cN : ClassId} {L : Nat} {xs : Nat → Int32} {y pc : Nat} {ls : mLs} {st : List mV} {M : mM} {o : mO} (C : mi_Cx y p R s m args c cells slots ad D cI cII cN L xs)  {n : Nat} (hd : decode (mi_cd y) pc = .ok (.irem, n)) (hok : mi_lnok pc (.irem) n = true) (h : mi_do y pc ls st M (.irem) = some o) : mi_SI p l e R s m args below meth c cells slots Q ad D cI cII cN L xs y pc ls st M o := by
  obtain rfl : n = 1 := Nat.eq_of_beq_eq_true hok
  have hx := C.1
  have hb := C.2.1
  rcases st with _ | ⟨b | b | b, _ | ⟨a | a | a, r⟩⟩ <;> simp only [mi_do] at h <;> first | (cases h; done) | skip
  by_cases hz : b = 0
  · rw [if_pos hz] at h; cases h
  · rw [if_neg hz] at h
    cases h
    exact fun hV => ms_irem hx hb hz hd (mi_V_jmp hV)

theorem mi_si_ineg {p : Program} {l : Launch} {e : Env} {R : Room} {s : State} {m : MethodId} {args : Array Value} {below : List Frame} {meth : Method} {c : Code} {cells slots : Nat} {Q : State → Prop} {ad : mHd → Nat} {D : va_G} {cI cII cN : ClassId} {L : Nat} {xs : Nat → Int32} {y pc : Nat} {ls : mLs} {st : List mV} {M : mM} {o : mO} (C : mi_Cx y p R s m args c cells slots ad D cI cII cN L xs)  {n : Nat} (hd : decode (mi_cd y) pc = .ok (.ineg, n)) (hok : mi_lnok pc (.ineg) n = true) (h : mi_do y pc ls st M (.ineg) = some o) : mi_SI p l e R s m args below meth c cells slots Q ad D cI cII cN L xs y pc ls st M o := by
  obtain rfl : n = 1 := Nat.eq_of_beq_eq_true hok
  have hx := C.1
  have hb := C.2.1
  rcases st with _ | ⟨a | a | a, r⟩ <;> cases h
  exact fun hV => ms_ineg hx hb hd (mi_V_jmp hV)

theorem mi_si_i2l {p : Program} {l : Launch} {e : Env} {R : Room} {s : State} {m : MethodId} {args : Array Value} {below : List Frame} {meth : Method} {c : Code} {cells slots : Nat} {Q : State → Prop} {ad : mHd → Nat} {D : va_G} {cI cII cN : ClassId} {L : Nat} {xs : Nat → Int32} {y pc : Nat} {ls : mLs} {st : List mV} {M : mM} {o : mO} (C : mi_Cx y p R s m args c cells slots ad D cI cII cN L xs)  {n : Nat} (hd : decode (mi_cd y) pc = .ok (.i2l, n)) (hok : mi_lnok pc (.i2l) n = true) (h : mi_do y pc ls st M (.i2l) = some o) : mi_SI p l e R s m args below meth c cells slots Q ad D cI cII cN L xs y pc ls st M o := by
  obtain rfl : n = 1 := Nat.eq_of_beq_eq_true hok
  have hx := C.1
  have hb := C.2.1
  rcases st with _ | ⟨a | a | a, r⟩ <;> cases h
  exact fun hV => ms_i2l hx hb hd (mi_V_jmp hV)

theorem mi_si_ladd {p : Program} {l : Launch} {e : Env} {R : Room} {s : State} {m : MethodId} {args : Array Value} {below : List Frame} {meth : Method} {c : Code} {cells slots : Nat} {Q : State → Prop} {ad : mHd → Nat} {D : va_G} {cI cII cN : ClassId} {L : Nat} {xs : Nat → Int32} {y pc : Nat} {ls : mLs} {st : List mV} {M : mM} {o : mO} (C : mi_Cx y p R s m args c cells slots ad D cI cII cN L xs)  {n : Nat} (hd : decode (mi_cd y) pc = .ok (.ladd, n)) (hok : mi_lnok pc (.ladd) n = true) (h : mi_do y pc ls st M (.ladd) = some o) : mi_SI p l e R s m args below meth c cells slots Q ad D cI cII cN L xs y pc ls st M o := by
  obtain rfl : n = 1 := Nat.eq_of_beq_eq_true hok
  have hx := C.1
  have hb := C.2.1
  rcases st with _ | ⟨b | b | b, _ | ⟨a | a | a, r⟩⟩ <;> cases h
  exact fun hV => ms_ladd hx hb hd (mi_V_jmp hV)

theorem mi_si_lmul {p : Program} {l : Launch} {e : Env} {R : Room} {s : State} {m : MethodId} {args : Array Value} {below : List Frame} {meth : Method} {c : Code} {cells slots : Nat} {Q : State → Prop} {ad : mHd → Nat} {D : va_G} {cI cII cN : ClassId} {L : Nat} {xs : Nat → Int32} {y pc : Nat} {ls : mLs} {st : List mV} {M : mM} {o : mO} (C : mi_Cx y p R s m args c cells slots ad D cI cII cN L xs)  {n : Nat} (hd : decode (mi_cd y) pc = .ok (.lmul, n)) (hok : mi_lnok pc (.lmul) n = true) (h : mi_do y pc ls st M (.lmul) = some o) : mi_SI p l e R s m args below meth c cells slots Q ad D cI cII cN L xs y pc ls st M o := by
  obtain rfl : n = 1 := Nat.eq_of_beq_eq_true hok
  have hx := C.1
  have hb := C.2.1
  rcases st with _ | ⟨b | b | b, _ | ⟨a | a | a, r⟩⟩ <;> cases h
  exact fun hV => ms_lmul hx hb hd (mi_V_jmp hV)

theorem mi_si_lcmp {p : Program} {l : Launch} {e : Env} {R : Room} {s : State} {m : MethodId} {args : Array Value} {below : List Frame} {meth : Method} {c : Code} {cells slots : Nat} {Q : State → Prop} {ad : mHd → Nat} {D : va_G} {cI cII cN : ClassId} {L : Nat} {xs : Nat → Int32} {y pc : Nat} {ls : mLs} {st : List mV} {M : mM} {o : mO} (C : mi_Cx y p R s m args c cells slots ad D cI cII cN L xs)  {n : Nat} (hd : decode (mi_cd y) pc = .ok (.lcmp, n)) (hok : mi_lnok pc (.lcmp) n = true) (h : mi_do y pc ls st M (.lcmp) = some o) : mi_SI p l e R s m args below meth c cells slots Q ad D cI cII cN L xs y pc ls st M o := by
  obtain rfl : n = 1 := Nat.eq_of_beq_eq_true hok
  have hx := C.1
  have hb := C.2.1
  rcases st with _ | ⟨b | b | b, _ | ⟨a | a | a, r⟩⟩ <;> cases h
  exact fun hV => ms_lcmp hx hb hd (mi_V_jmp hV)

theorem mi_si_dup {p : Program} {l : Launch} {e : Env} {R : Room} {s : State} {m : MethodId} {args : Array Value} {below : List Frame} {meth : Method} {c : Code} {cells slots : Nat} {Q : State → Prop} {ad : mHd → Nat} {D : va_G} {cI cII cN : ClassId} {L : Nat} {xs : Nat → Int32} {y pc : Nat} {ls : mLs} {st : List mV} {M : mM} {o : mO} (C : mi_Cx y p R s m args c cells slots ad D cI cII cN L xs)  {n : Nat} (hd : decode (mi_cd y) pc = .ok (.dup, n)) (hok : mi_lnok pc (.dup) n = true) (h : mi_do y pc ls st M (.dup) = some o) : mi_SI p l e R s m args below meth c cells slots Q ad D cI cII cN L xs y pc ls st M o := by
  obtain rfl : n = 1 := Nat.eq_of_beq_eq_true hok
  have hx := C.1
  have hb := C.2.1
  rcases st with _ | ⟨v, r⟩
  · cases h
  · rcases hv : mi_wide v with _ | _ <;> simp only [mi_do, hv] at h <;> cases h
    exact fun hV => ms_dup hx hb hv hd (mi_V_jmp hV)

theorem mi_si_pop {p : Program} {l : Launch} {e : Env} {R : Room} {s : State} {m : MethodId} {args : Array Value} {below : List Frame} {meth : Method} {c : Code} {cells slots : Nat} {Q : State → Prop} {ad : mHd → Nat} {D : va_G} {cI cII cN : ClassId} {L : Nat} {xs : Nat → Int32} {y pc : Nat} {ls : mLs} {st : List mV} {M : mM} {o : mO} (C : mi_Cx y p R s m args c cells slots ad D cI cII cN L xs)  {n : Nat} (hd : decode (mi_cd y) pc = .ok (.pop, n)) (hok : mi_lnok pc (.pop) n = true) (h : mi_do y pc ls st M (.pop) = some o) : mi_SI p l e R s m args below meth c cells slots Q ad D cI cII cN L xs y pc ls st M o := by
  obtain rfl : n = 1 := Nat.eq_of_beq_eq_true hok
  have hx := C.1
  have hb := C.2.1
  rcases st with _ | ⟨v, r⟩
  · cases h
  · rcases hv : mi_wide v with _ | _ <;> simp only [mi_do, hv] at h <;> cases h
    exact fun hV => ms_pop hx hb hv hd (mi_V_jmp hV)

theorem mi_si_dup2 {p : Program} {l : Launch} {e : Env} {R : Room} {s : State} {m : MethodId} {args : Array Value} {below : List Frame} {meth : Method} {c : Code} {cells slots : Nat} {Q : State → Prop} {ad : mHd → Nat} {D : va_G} {cI cII cN : ClassId} {L : Nat} {xs : Nat → Int32} {y pc : Nat} {ls : mLs} {st : List mV} {M : mM} {o : mO} (C : mi_Cx y p R s m args c cells slots ad D cI cII cN L xs)  {n : Nat} (hd : decode (mi_cd y) pc = .ok (.dup2, n)) (hok : mi_lnok pc (.dup2) n = true) (h : mi_do y pc ls st M (.dup2) = some o) : mi_SI p l e R s m args below meth c cells slots Q ad D cI cII cN L xs y pc ls st M o := by
  obtain rfl : n = 1 := Nat.eq_of_beq_eq_true hok
  have hx := C.1
  have hb := C.2.1
  rcases st with _ | ⟨v, _ | ⟨w, r⟩⟩
  · cases h
  · cases h
  · rcases hv : mi_wide v with _ | _ <;> rcases hw : mi_wide w with _ | _ <;> simp only [mi_do, hv, hw, Bool.or_false, Bool.or_true, Bool.false_or, Bool.true_or] at h <;> cases h
    exact fun hV => ms_dup2 hx hb hv hw hd (mi_V_jmp hV)

theorem mi_si_ifCond {p : Program} {l : Launch} {e : Env} {R : Room} {s : State} {m : MethodId} {args : Array Value} {below : List Frame} {meth : Method} {c : Code} {cells slots : Nat} {Q : State → Prop} {ad : mHd → Nat} {D : va_G} {cI cII cN : ClassId} {L : Nat} {xs : Nat → Int32} {y pc : Nat} {ls : mLs} {st : List mV} {M : mM} {o : mO} (C : mi_Cx y p R s m args c cells slots ad D cI cII cN L xs) {cd : ClassFile.Cond} {off : Int} {n : Nat} (hd : decode (mi_cd y) pc = .ok (.ifCond cd off, n)) (hok : mi_lnok pc (.ifCond cd off) n = true) (h : mi_do y pc ls st M (.ifCond cd off) = some o) : mi_SI p l e R s m args below meth c cells slots Q ad D cI cII cN L xs y pc ls st M o := by
  have hx := C.1
  have hb := C.2.1
  have hok2 : (decide (0 ≤ (pc : Int) + off) && Nat.beq n 3) = true := hok
  simp only [Bool.and_eq_true, decide_eq_true_eq] at hok2
  obtain ⟨ht, hn⟩ := hok2
  obtain rfl : n = 3 := Nat.eq_of_beq_eq_true hn
  rcases st with _ | ⟨x | x | x, r⟩ <;> simp only [mi_do] at h <;> first | (cases h; done) | skip
  cases cd
  case eq =>
    simp only at h
    by_cases hc : x = 0
    · rw [if_pos hc] at h
      cases h
      exact fun hV => ms_if_eq hx hb ht hd (fun _ => mi_V_jmp hV) (fun q => absurd hc q)
    · rw [if_neg hc] at h
      cases h
      exact fun hV => ms_if_eq hx hb ht hd (fun q => absurd q hc) (fun _ => mi_V_jmp hV)
  case ne =>
    simp only at h
    by_cases hc : ¬ x = 0
    · rw [if_pos hc] at h
      cases h
      exact fun hV => ms_if_ne hx hb ht hd (fun _ => mi_V_jmp hV) (fun q => absurd hc q)
    · rw [if_neg hc] at h
      cases h
      exact fun hV => ms_if_ne hx hb ht hd (fun q => absurd q hc) (fun _ => mi_V_jmp hV)
  case lt =>
    simp only at h
    by_cases hc : x < 0
    · rw [if_pos hc] at h
      cases h
      exact fun hV => ms_if_lt hx hb ht hd (fun _ => mi_V_jmp hV) (fun q => absurd hc q)
    · rw [if_neg hc] at h
      cases h
      exact fun hV => ms_if_lt hx hb ht hd (fun q => absurd q hc) (fun _ => mi_V_jmp hV)
  case ge =>
    simp only at h
    by_cases hc : 0 ≤ x
    · rw [if_pos hc] at h
      cases h
      exact fun hV => ms_if_ge hx hb ht hd (fun _ => mi_V_jmp hV) (fun q => absurd hc q)
    · rw [if_neg hc] at h
      cases h
      exact fun hV => ms_if_ge hx hb ht hd (fun q => absurd q hc) (fun _ => mi_V_jmp hV)
  case gt =>
    simp only at h
    by_cases hc : 0 < x
    · rw [if_pos hc] at h
      cases h
      exact fun hV => ms_if_gt hx hb ht hd (fun _ => mi_V_jmp hV) (fun q => absurd hc q)
    · rw [if_neg hc] at h
      cases h
      exact fun hV => ms_if_gt hx hb ht hd (fun q => absurd q hc) (fun _ => mi_V_jmp hV)
  case le =>
    simp only at h
    by_cases hc : x ≤ 0
    · rw [if_pos hc] at h
      cases h
      exact fun hV => ms_if_le hx hb ht hd (fun _ => mi_V_jmp hV) (fun q => absurd hc q)
    · rw [if_neg hc] at h
      cases h
      exact fun hV => ms_if_le hx hb ht hd (fun q => absurd q hc) (fun _ => mi_V_jmp hV)

theorem mi_si_if_icmp {p : Program} {l : Launch} {e : Env} {R : Room} {s : State} {m : MethodId} {args : Array Value} {below : List Frame} {meth : Method} {c : Code} {cells slots : Nat} {Q : State → Prop} {ad : mHd → Nat} {D : va_G} {cI cII cN : ClassId} {L : Nat} {xs : Nat → Int32} {y pc : Nat} {ls : mLs} {st : List mV} {M : mM} {o : mO} (C : mi_Cx y p R s m args c cells slots ad D cI cII cN L xs) {cd : ClassFile.Cond} {off : Int} {n : Nat} (hd : decode (mi_cd y) pc = .ok (.if_icmp cd off, n)) (hok : mi_lnok pc (.if_icmp cd off) n = true) (h : mi_do y pc ls st M (.if_icmp cd off) = some o) : mi_SI p l e R s m args below meth c cells slots Q ad D cI cII cN L xs y pc ls st M o := by
  have hx := C.1
  have hb := C.2.1
  have hok2 : (decide (0 ≤ (pc : Int) + off) && Nat.beq n 3) = true := hok
  simp only [Bool.and_eq_true, decide_eq_true_eq] at hok2
  obtain ⟨ht, hn⟩ := hok2
  obtain rfl : n = 3 := Nat.eq_of_beq_eq_true hn
  rcases st with _ | ⟨b | b | b, _ | ⟨a | a | a, r⟩⟩ <;> simp only [mi_do] at h <;> first | (cases h; done) | skip
  cases cd
  case eq =>
    simp only at h
    by_cases hc : a = b
    · rw [if_pos hc] at h
      cases h
      exact fun hV => ms_icmp_eq hx hb ht hd (fun _ => mi_V_jmp hV) (fun q => absurd hc q)
    · rw [if_neg hc] at h
      cases h
      exact fun hV => ms_icmp_eq hx hb ht hd (fun q => absurd q hc) (fun _ => mi_V_jmp hV)
  case ne =>
    simp only at h
    by_cases hc : ¬ a = b
    · rw [if_pos hc] at h
      cases h
      exact fun hV => ms_icmp_ne hx hb ht hd (fun _ => mi_V_jmp hV) (fun q => absurd hc q)
    · rw [if_neg hc] at h
      cases h
      exact fun hV => ms_icmp_ne hx hb ht hd (fun q => absurd q hc) (fun _ => mi_V_jmp hV)
  case lt =>
    simp only at h
    by_cases hc : a < b
    · rw [if_pos hc] at h
      cases h
      exact fun hV => ms_icmp_lt hx hb ht hd (fun _ => mi_V_jmp hV) (fun q => absurd hc q)
    · rw [if_neg hc] at h
      cases h
      exact fun hV => ms_icmp_lt hx hb ht hd (fun q => absurd q hc) (fun _ => mi_V_jmp hV)
  case ge =>
    simp only at h
    by_cases hc : b ≤ a
    · rw [if_pos hc] at h
      cases h
      exact fun hV => ms_icmp_ge hx hb ht hd (fun _ => mi_V_jmp hV) (fun q => absurd hc q)
    · rw [if_neg hc] at h
      cases h
      exact fun hV => ms_icmp_ge hx hb ht hd (fun q => absurd q hc) (fun _ => mi_V_jmp hV)
  case gt =>
    simp only at h
    by_cases hc : b < a
    · rw [if_pos hc] at h
      cases h
      exact fun hV => ms_icmp_gt hx hb ht hd (fun _ => mi_V_jmp hV) (fun q => absurd hc q)
    · rw [if_neg hc] at h
      cases h
      exact fun hV => ms_icmp_gt hx hb ht hd (fun q => absurd q hc) (fun _ => mi_V_jmp hV)
  case le =>
    simp only at h
    by_cases hc : a ≤ b
    · rw [if_pos hc] at h
      cases h
      exact fun hV => ms_icmp_le hx hb ht hd (fun _ => mi_V_jmp hV) (fun q => absurd hc q)
    · rw [if_neg hc] at h
      cases h
      exact fun hV => ms_icmp_le hx hb ht hd (fun q => absurd q hc) (fun _ => mi_V_jmp hV)

theorem mi_si_goto {p : Program} {l : Launch} {e : Env} {R : Room} {s : State} {m : MethodId} {args : Array Value} {below : List Frame} {meth : Method} {c : Code} {cells slots : Nat} {Q : State → Prop} {ad : mHd → Nat} {D : va_G} {cI cII cN : ClassId} {L : Nat} {xs : Nat → Int32} {y pc : Nat} {ls : mLs} {st : List mV} {M : mM} {o : mO} (C : mi_Cx y p R s m args c cells slots ad D cI cII cN L xs) {off : Int} {n : Nat} (hd : decode (mi_cd y) pc = .ok (.goto off, n)) (hok : mi_lnok pc (.goto off) n = true) (h : mi_do y pc ls st M (.goto off) = some o) : mi_SI p l e R s m args below meth c cells slots Q ad D cI cII cN L xs y pc ls st M o := by
  have hx := C.1
  have hb := C.2.1
  have hok2 : (decide (0 ≤ (pc : Int) + off) && Nat.beq n 3) = true := hok
  simp only [Bool.and_eq_true, decide_eq_true_eq] at hok2
  obtain ⟨ht, hn⟩ := hok2
  obtain rfl : n = 3 := Nat.eq_of_beq_eq_true hn
  cases h
  exact fun hV => ms_goto hx hb ht hd (mi_V_jmp hV)

theorem mi_si_tableswitch {p : Program} {l : Launch} {e : Env} {R : Room} {s : State} {m : MethodId} {args : Array Value} {below : List Frame} {meth : Method} {c : Code} {cells slots : Nat} {Q : State → Prop} {ad : mHd → Nat} {D : va_G} {cI cII cN : ClassId} {L : Nat} {xs : Nat → Int32} {y pc : Nat} {ls : mLs} {st : List mV} {M : mM} {o : mO} (C : mi_Cx y p R s m args c cells slots ad D cI cII cN L xs) {d lo hi : Int} {offs : Array Int} {n : Nat} (hd : decode (mi_cd y) pc = .ok (.tableswitch d lo hi offs, n)) (hok : mi_lnok pc (.tableswitch d lo hi offs) n = true) (h : mi_do y pc ls st M (.tableswitch d lo hi offs) = some o) : mi_SI p l e R s m args below meth c cells slots Q ad D cI cII cN L xs y pc ls st M o := by
  have hx := C.1
  have hb := C.2.1
  rcases st with _ | ⟨x | x | x, r⟩ <;> simp only [mi_do] at h <;> cases h
  exact fun hV => ms_table C hok hd (mi_V_jmp hV)

theorem mi_si_getfield {p : Program} {l : Launch} {e : Env} {R : Room} {s : State} {m : MethodId} {args : Array Value} {below : List Frame} {meth : Method} {c : Code} {cells slots : Nat} {Q : State → Prop} {ad : mHd → Nat} {D : va_G} {cI cII cN : ClassId} {L : Nat} {xs : Nat → Int32} {y pc : Nat} {ls : mLs} {st : List mV} {M : mM} {o : mO} (C : mi_Cx y p R s m args c cells slots ad D cI cII cN L xs) {k : Nat} {n : Nat} (hd : decode (mi_cd y) pc = .ok (.getfield k, n)) (hok : mi_lnok pc (.getfield k) n = true) (h : mi_do y pc ls st M (.getfield k) = some o) : mi_SI p l e R s m args below meth c cells slots Q ad D cI cII cN L xs y pc ls st M o := by
  obtain rfl : n = 3 := Nat.eq_of_beq_eq_true hok
  have hx := C.1
  have hb := C.2.1
  rcases st with _ | ⟨x | x | hh, r⟩ <;> rcases hf : mi_f3 mi_fls (mi_oc y) k with _ | ⟨cc, f⟩ <;> simp only [mi_do, hf] at h <;> first | (cases h; done) | skip
  cases hg : mi_gf cc f hh M with
  | none => rw [hg] at h; cases h
  | some v =>
    rw [hg] at h
    cases h
    exact fun hV => ms_getfield C hf hg hd (mi_V_jmp hV)

theorem mi_si_putfield {p : Program} {l : Launch} {e : Env} {R : Room} {s : State} {m : MethodId} {args : Array Value} {below : List Frame} {meth : Method} {c : Code} {cells slots : Nat} {Q : State → Prop} {ad : mHd → Nat} {D : va_G} {cI cII cN : ClassId} {L : Nat} {xs : Nat → Int32} {y pc : Nat} {ls : mLs} {st : List mV} {M : mM} {o : mO} (C : mi_Cx y p R s m args c cells slots ad D cI cII cN L xs) {k : Nat} {n : Nat} (hd : decode (mi_cd y) pc = .ok (.putfield k, n)) (hok : mi_lnok pc (.putfield k) n = true) (h : mi_do y pc ls st M (.putfield k) = some o) : mi_SI p l e R s m args below meth c cells slots Q ad D cI cII cN L xs y pc ls st M o := by
  obtain rfl : n = 3 := Nat.eq_of_beq_eq_true hok
  have hx := C.1
  have hb := C.2.1
  rcases st with _ | ⟨v, _ | ⟨x | x | hh, r⟩⟩ <;> rcases hf : mi_f3 mi_fls (mi_oc y) k with _ | ⟨cc, f⟩ <;> simp only [mi_do, hf] at h <;> first | (cases h; done) | skip
  cases hg : mi_pf cc f hh v M with
  | none => rw [hg] at h; cases h
  | some M1 =>
    rw [hg] at h
    cases h
    exact fun hV => ms_putfield C hf hg hd (mi_V_jmp hV)

theorem mi_si_getstatic {p : Program} {l : Launch} {e : Env} {R : Room} {s : State} {m : MethodId} {args : Array Value} {below : List Frame} {meth : Method} {c : Code} {cells slots : Nat} {Q : State → Prop} {ad : mHd → Nat} {D : va_G} {cI cII cN : ClassId} {L : Nat} {xs : Nat → Int32} {y pc : Nat} {ls : mLs} {st : List mV} {M : mM} {o : mO} (C : mi_Cx y p R s m args c cells slots ad D cI cII cN L xs) {k : Nat} {n : Nat} (hd : decode (mi_cd y) pc = .ok (.getstatic k, n)) (hok : mi_lnok pc (.getstatic k) n = true) (h : mi_do y pc ls st M (.getstatic k) = some o) : mi_SI p l e R s m args below meth c cells slots Q ad D cI cII cN L xs y pc ls st M o := by
  obtain rfl : n = 3 := Nat.eq_of_beq_eq_true hok
  have hx := C.1
  have hb := C.2.1
  simp only [mi_do] at h
  split at h
  · next ho => cases h; exact fun hV => ms_getstatic C ⟨ho, Or.inl ⟨rfl, rfl⟩⟩ hd (mi_V_jmp hV)
  · next ho => cases h; exact fun hV => ms_getstatic C ⟨ho, Or.inr ⟨rfl, rfl⟩⟩ hd (mi_V_jmp hV)
  · cases h

theorem mi_si_arraylength {p : Program} {l : Launch} {e : Env} {R : Room} {s : State} {m : MethodId} {args : Array Value} {below : List Frame} {meth : Method} {c : Code} {cells slots : Nat} {Q : State → Prop} {ad : mHd → Nat} {D : va_G} {cI cII cN : ClassId} {L : Nat} {xs : Nat → Int32} {y pc : Nat} {ls : mLs} {st : List mV} {M : mM} {o : mO} (C : mi_Cx y p R s m args c cells slots ad D cI cII cN L xs)  {n : Nat} (hd : decode (mi_cd y) pc = .ok (.arraylength, n)) (hok : mi_lnok pc (.arraylength) n = true) (h : mi_do y pc ls st M (.arraylength) = some o) : mi_SI p l e R s m args below meth c cells slots Q ad D cI cII cN L xs y pc ls st M o := by
  obtain rfl : n = 1 := Nat.eq_of_beq_eq_true hok
  have hx := C.1
  have hb := C.2.1
  rcases st with _ | ⟨x | x | hh, r⟩ <;> simp only [mi_do] at h <;> first | (cases h; done) | skip
  cases hr : mi_rd hh M with
  | none => rw [hr] at h; cases h
  | some q =>
    obtain ⟨n, f⟩ := q
    rw [hr] at h
    cases h
    exact fun hV => ms_alen C hr hd (mi_V_jmp hV)

theorem mi_si_iaload {p : Program} {l : Launch} {e : Env} {R : Room} {s : State} {m : MethodId} {args : Array Value} {below : List Frame} {meth : Method} {c : Code} {cells slots : Nat} {Q : State → Prop} {ad : mHd → Nat} {D : va_G} {cI cII cN : ClassId} {L : Nat} {xs : Nat → Int32} {y pc : Nat} {ls : mLs} {st : List mV} {M : mM} {o : mO} (C : mi_Cx y p R s m args c cells slots ad D cI cII cN L xs)  {n : Nat} (hd : decode (mi_cd y) pc = .ok (.iaload, n)) (hok : mi_lnok pc (.iaload) n = true) (h : mi_do y pc ls st M (.iaload) = some o) : mi_SI p l e R s m args below meth c cells slots Q ad D cI cII cN L xs y pc ls st M o := by
  obtain rfl : n = 1 := Nat.eq_of_beq_eq_true hok
  have hx := C.1
  have hb := C.2.1
  rcases st with _ | ⟨i | i | i, _ | ⟨x | x | hh, r⟩⟩ <;> simp only [mi_do] at h <;> first | (cases h; done) | skip
  cases hr : mi_rd hh M with
  | none => rw [hr] at h; cases h
  | some q =>
    obtain ⟨n, f⟩ := q
    rw [hr] at h
    simp only at h
    cases hi : mi_ix i n with
    | none => rw [hi] at h; cases h
    | some k =>
      rw [hi] at h
      cases h
      exact fun hV => ms_iaload C hr hi hd (mi_V_jmp hV)

theorem mi_si_aaload {p : Program} {l : Launch} {e : Env} {R : Room} {s : State} {m : MethodId} {args : Array Value} {below : List Frame} {meth : Method} {c : Code} {cells slots : Nat} {Q : State → Prop} {ad : mHd → Nat} {D : va_G} {cI cII cN : ClassId} {L : Nat} {xs : Nat → Int32} {y pc : Nat} {ls : mLs} {st : List mV} {M : mM} {o : mO} (C : mi_Cx y p R s m args c cells slots ad D cI cII cN L xs)  {n : Nat} (hd : decode (mi_cd y) pc = .ok (.aaload, n)) (hok : mi_lnok pc (.aaload) n = true) (h : mi_do y pc ls st M (.aaload) = some o) : mi_SI p l e R s m args below meth c cells slots Q ad D cI cII cN L xs y pc ls st M o := by
  obtain rfl : n = 1 := Nat.eq_of_beq_eq_true hok
  have hx := C.1
  have hb := C.2.1
  rcases st with _ | ⟨i | i | i, _ | ⟨x | x | hh, r⟩⟩ <;> simp only [mi_do] at h <;> first | (cases h; done) | skip
  cases hr : mi_rr hh M with
  | none => rw [hr] at h; cases h
  | some q =>
    obtain ⟨n, f⟩ := q
    rw [hr] at h
    simp only at h
    cases hi : mi_ix i n with
    | none => rw [hi] at h; cases h
    | some k =>
      rw [hi] at h
      cases h
      exact fun hV => ms_aaload C hr hi hd (mi_V_jmp hV)

theorem mi_si_iastore {p : Program} {l : Launch} {e : Env} {R : Room} {s : State} {m : MethodId} {args : Array Value} {below : List Frame} {meth : Method} {c : Code} {cells slots : Nat} {Q : State → Prop} {ad : mHd → Nat} {D : va_G} {cI cII cN : ClassId} {L : Nat} {xs : Nat → Int32} {y pc : Nat} {ls : mLs} {st : List mV} {M : mM} {o : mO} (C : mi_Cx y p R s m args c cells slots ad D cI cII cN L xs)  {n : Nat} (hd : decode (mi_cd y) pc = .ok (.iastore, n)) (hok : mi_lnok pc (.iastore) n = true) (h : mi_do y pc ls st M (.iastore) = some o) : mi_SI p l e R s m args below meth c cells slots Q ad D cI cII cN L xs y pc ls st M o := by
  obtain rfl : n = 1 := Nat.eq_of_beq_eq_true hok
  have hx := C.1
  have hb := C.2.1
  rcases st with _ | ⟨v | v | v, _ | ⟨i | i | i, _ | ⟨x | x | hh, r⟩⟩⟩ <;> simp only [mi_do] at h <;> first | (cases h; done) | skip
  cases hr : mi_sl hh with
  | none => rw [hr] at h; cases h
  | some q =>
    obtain ⟨t, j, o, n⟩ := q
    rw [hr] at h
    simp only at h
    cases hi : mi_ix i n with
    | none => rw [hi] at h; cases h
    | some k =>
      rw [hi] at h
      cases h
      exact fun hV => ms_iastore C hr hi hd (mi_V_jmp hV)

theorem mi_si_aastore {p : Program} {l : Launch} {e : Env} {R : Room} {s : State} {m : MethodId} {args : Array Value} {below : List Frame} {meth : Method} {c : Code} {cells slots : Nat} {Q : State → Prop} {ad : mHd → Nat} {D : va_G} {cI cII cN : ClassId} {L : Nat} {xs : Nat → Int32} {y pc : Nat} {ls : mLs} {st : List mV} {M : mM} {o : mO} (C : mi_Cx y p R s m args c cells slots ad D cI cII cN L xs)  {n : Nat} (hd : decode (mi_cd y) pc = .ok (.aastore, n)) (hok : mi_lnok pc (.aastore) n = true) (h : mi_do y pc ls st M (.aastore) = some o) : mi_SI p l e R s m args below meth c cells slots Q ad D cI cII cN L xs y pc ls st M o := by
  obtain rfl : n = 1 := Nat.eq_of_beq_eq_true hok
  have hx := C.1
  have hb := C.2.1
  simp only [mi_do] at h
  split at h
  · next j a i b c2 r =>
    cases hi : mi_ix i 5 with
    | none => rw [hi] at h; cases h
    | some k =>
      rw [hi] at h
      cases h
      exact fun hV => ms_aastore C hi hd (mi_V_jmp hV)
  · cases h

theorem mi_si_invokevirtual {p : Program} {l : Launch} {e : Env} {R : Room} {s : State} {m : MethodId} {args : Array Value} {below : List Frame} {meth : Method} {c : Code} {cells slots : Nat} {Q : State → Prop} {ad : mHd → Nat} {D : va_G} {cI cII cN : ClassId} {L : Nat} {xs : Nat → Int32} {y pc : Nat} {ls : mLs} {st : List mV} {M : mM} {o : mO} (C : mi_Cx y p R s m args c cells slots ad D cI cII cN L xs) {k : Nat} {n : Nat} (hd : decode (mi_cd y) pc = .ok (.invokevirtual k, n)) (hok : mi_lnok pc (.invokevirtual k) n = true) (h : mi_do y pc ls st M (.invokevirtual k) = some o) : mi_SI p l e R s m args below meth c cells slots Q ad D cI cII cN L xs y pc ls st M o := by
  obtain rfl : n = 3 := Nat.eq_of_beq_eq_true hok
  have hx := C.1
  have hb := C.2.1
  simp only [mi_do] at h
  split at h
  · next z hf =>
    obtain ⟨as, r, rfl, h2, h3, h4, h6, h5⟩ := mi_call_inv h
    exact ⟨k, 0, hf, Or.inl ⟨rfl, hd, h5 rfl⟩, h2, h3, h4, h6, rfl, rfl⟩
  · cases h

theorem mi_si_invokestatic {p : Program} {l : Launch} {e : Env} {R : Room} {s : State} {m : MethodId} {args : Array Value} {below : List Frame} {meth : Method} {c : Code} {cells slots : Nat} {Q : State → Prop} {ad : mHd → Nat} {D : va_G} {cI cII cN : ClassId} {L : Nat} {xs : Nat → Int32} {y pc : Nat} {ls : mLs} {st : List mV} {M : mM} {o : mO} (C : mi_Cx y p R s m args c cells slots ad D cI cII cN L xs) {k : Nat} {n : Nat} (hd : decode (mi_cd y) pc = .ok (.invokestatic k, n)) (hok : mi_lnok pc (.invokestatic k) n = true) (h : mi_do y pc ls st M (.invokestatic k) = some o) : mi_SI p l e R s m args below meth c cells slots Q ad D cI cII cN L xs y pc ls st M o := by
  obtain rfl : n = 3 := Nat.eq_of_beq_eq_true hok
  have hx := C.1
  have hb := C.2.1
  rcases hf : mi_f3 mi_mls (mi_oc y) k with _ | ⟨d, z⟩ <;> simp only [mi_do, hf] at h
  · cases h
  · unfold mi_stat at h
    split at h
    · next z' e =>
      cases e
      obtain ⟨as, r, rfl, h2, h3, h4, h6, -⟩ := mi_call_inv h
      exact ⟨k, 1, hf, Or.inr ⟨Or.inl rfl, hd⟩, h2, h3, h4, h6, rfl, rfl⟩
    · next z' e =>
      cases e
      obtain ⟨as, r, rfl, h2, h3, h4, h6, -⟩ := mi_call_inv h
      exact ⟨k, 2, hf, Or.inr ⟨Or.inr rfl, hd⟩, h2, h3, h4, h6, rfl, rfl⟩
    · next z' e =>
      cases e
      rcases st with _ | ⟨b | b | b, _ | ⟨a | a | a, r⟩⟩ <;> simp only at h <;> first | (cases h; done) | skip
      cases hc : Nat.ble (mi_cats r) 8 && Nat.ble 1 (mi_rf y) && Nat.ble 21 (mi_rl y) with
      | false => rw [hc] at h; cases h
      | true =>
        rw [hc] at h
        cases h
        simp only [Bool.and_eq_true] at hc
        exact fun hV => ms_min C hf (Nat.le_of_ble_eq_true hc.1.1) (Nat.le_of_ble_eq_true hc.1.2) (Nat.le_of_ble_eq_true hc.2) hd (mi_V_jmp hV)
    · next z' e =>
      cases e
      rcases st with _ | ⟨b | b | b, _ | ⟨a | a | a, r⟩⟩ <;> simp only at h <;> first | (cases h; done) | skip
      cases hc : Nat.ble (mi_cats r) 8 && Nat.ble 1 (mi_rf y) && Nat.ble 21 (mi_rl y) with
      | false => rw [hc] at h; cases h
      | true =>
        rw [hc] at h
        cases h
        simp only [Bool.and_eq_true] at hc
        exact fun hV => ms_max C hf (Nat.le_of_ble_eq_true hc.1.1) (Nat.le_of_ble_eq_true hc.1.2) (Nat.le_of_ble_eq_true hc.2) hd (mi_V_jmp hV)
    · next z' e =>
      cases e
      rcases st with _ | ⟨a | a | a, r⟩ <;> simp only at h <;> first | (cases h; done) | skip
      cases hc : Nat.ble (mi_cats r) 8 && Nat.ble 1 (mi_rf y) && Nat.ble 21 (mi_rl y) with
      | false => rw [hc] at h; cases h
      | true =>
        rw [hc] at h
        cases h
        simp only [Bool.and_eq_true] at hc
        exact fun hV => ms_abs C hf (Nat.le_of_ble_eq_true hc.1.1) (Nat.le_of_ble_eq_true hc.1.2) (Nat.le_of_ble_eq_true hc.2) hd (mi_V_jmp hV)
    · next z' e =>
      cases e
      split at h
      · next n dp h1 sp h0 r =>
        cases hc : Nat.ble (mi_cats r) 8 && Nat.ble 1 (mi_rf y) && Nat.ble 60 (mi_rl y) with
        | false => rw [hc] at h; cases h
        | true =>
          rw [hc] at h
          simp only at h
          simp only [Bool.and_eq_true] at hc
          cases hac : mi_ac h0 h1 sp dp n M with
          | none => rw [hac] at h; cases h
          | some M1 =>
            rw [hac] at h
            cases h
            exact fun hV => ms_copy C hf hac (Nat.le_of_ble_eq_true hc.1.1) (Nat.le_of_ble_eq_true hc.1.2) (Nat.le_of_ble_eq_true hc.2) hd (mi_V_jmp hV)
      · cases h
    · cases h

theorem mi_si_ireturn {p : Program} {l : Launch} {e : Env} {R : Room} {s : State} {m : MethodId} {args : Array Value} {below : List Frame} {meth : Method} {c : Code} {cells slots : Nat} {Q : State → Prop} {ad : mHd → Nat} {D : va_G} {cI cII cN : ClassId} {L : Nat} {xs : Nat → Int32} {y pc : Nat} {ls : mLs} {st : List mV} {M : mM} {o : mO} (C : mi_Cx y p R s m args c cells slots ad D cI cII cN L xs)  {n : Nat} (hd : decode (mi_cd y) pc = .ok (.ireturn, n)) (hok : mi_lnok pc (.ireturn) n = true) (h : mi_do y pc ls st M (.ireturn) = some o) : mi_SI p l e R s m args below meth c cells slots Q ad D cI cII cN L xs y pc ls st M o := by
  obtain rfl : n = 1 := Nat.eq_of_beq_eq_true hok
  have hx := C.1
  have hb := C.2.1
  simp only [mi_do] at h
  split at h
  · next x e => cases h; exact ⟨by unfold mi_ri; rw [e]; exact hd, by unfold mi_rv; rw [e], by unfold mi_rb; rw [e]; exact ⟨x, rfl⟩⟩
  · next x e =>
    by_cases hc : x = 0 ∨ x = 1
    · rw [if_pos hc] at h
      cases h
      exact ⟨by unfold mi_ri; rw [e]; exact hd, by unfold mi_rv; rw [e], by unfold mi_rb; rw [e]; exact hc.imp (fun q => by rw [q]) (fun q => by rw [q])⟩
    · rw [if_neg hc] at h; cases h
  · cases h

theorem mi_si_lreturn {p : Program} {l : Launch} {e : Env} {R : Room} {s : State} {m : MethodId} {args : Array Value} {below : List Frame} {meth : Method} {c : Code} {cells slots : Nat} {Q : State → Prop} {ad : mHd → Nat} {D : va_G} {cI cII cN : ClassId} {L : Nat} {xs : Nat → Int32} {y pc : Nat} {ls : mLs} {st : List mV} {M : mM} {o : mO} (C : mi_Cx y p R s m args c cells slots ad D cI cII cN L xs)  {n : Nat} (hd : decode (mi_cd y) pc = .ok (.lreturn, n)) (hok : mi_lnok pc (.lreturn) n = true) (h : mi_do y pc ls st M (.lreturn) = some o) : mi_SI p l e R s m args below meth c cells slots Q ad D cI cII cN L xs y pc ls st M o := by
  obtain rfl : n = 1 := Nat.eq_of_beq_eq_true hok
  have hx := C.1
  have hb := C.2.1
  simp only [mi_do] at h
  split at h
  · next x e => cases h; exact ⟨by unfold mi_ri; rw [e]; exact hd, by unfold mi_rv; rw [e], by unfold mi_rb; rw [e]; exact ⟨x, rfl⟩⟩
  · cases h

theorem mi_si_return_ {p : Program} {l : Launch} {e : Env} {R : Room} {s : State} {m : MethodId} {args : Array Value} {below : List Frame} {meth : Method} {c : Code} {cells slots : Nat} {Q : State → Prop} {ad : mHd → Nat} {D : va_G} {cI cII cN : ClassId} {L : Nat} {xs : Nat → Int32} {y pc : Nat} {ls : mLs} {st : List mV} {M : mM} {o : mO} (C : mi_Cx y p R s m args c cells slots ad D cI cII cN L xs)  {n : Nat} (hd : decode (mi_cd y) pc = .ok (.return_, n)) (hok : mi_lnok pc (.return_) n = true) (h : mi_do y pc ls st M (.return_) = some o) : mi_SI p l e R s m args below meth c cells slots Q ad D cI cII cN L xs y pc ls st M o := by
  obtain rfl : n = 1 := Nat.eq_of_beq_eq_true hok
  have hx := C.1
  have hb := C.2.1
  simp only [mi_do] at h
  split at h
  · next e => cases h; exact ⟨by unfold mi_ri; rw [e]; exact hd, by unfold mi_rv; rw [e], by unfold mi_rb; rw [e]⟩
  · cases h

