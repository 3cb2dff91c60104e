section CX
variable {p : Program} {l : Launch} {e : Env} {R : Room} {s : State} {m : MethodId} {args : Array Value} {below : List Frame} {meth : Method} {c : Code} {H : Heap} {locs : List Loc} {cells slots : Nat} {Q : State → Prop}
variable {cc : ByteArray} {pc : Nat} {ls : Array Slot} {rest : List Value} {D : va_G} {A : Nat → Prop} {cI cII cN : ClassId} {H0 : Heap} {b : Nat} {es : List va_E} {own : String} {index nL : Nat}
theorem hw_callX (hx : p.tables.exec = Jvm.exec) (hb : c.code = cc) (hml : c.maxLocals = nL) (hsz : ls.size = nL) (hts : ∀ w ∈ mi_gt, w.before args s = true) (hown : s.vm.findClass own = some m.cls) (KC : mi_KC D cI cII cN s) (hw : Hw D b (es ++ [.inr (2, mi_bl 2)]) H) (hS : va_S A H0 H locs) (hA : ∀ q, b ≤ q → A q) (hlk : (Cond.methodLink own index yi2).before args s = true) (hcells : cells + 240 ≤ R.cells) (hslots : slots + 1835 ≤ R.slots) (hfr : 3 ≤ R.frames) (hlo : 81 ≤ R.locals) (hroom : (rest.map fun v => v.category).sum ≤ 8) (hdg : decode cc pc = .ok (.invokespecial index, 3))
    (kk : ∀ (H1 : Heap) (locs1 : List Loc), Hw D b (es ++ ee_2 cI cII cN (b + es.length)) H1 → va_S A H0 H1 locs1 → W p l e R s m args below meth c H1 locs1 (cells + 240) (slots + 1835) Q (F0 m (pc + 3) ls rest)) : W p l e R s m args below meth c H locs cells slots Q (F0 m pc ls (.ref (b + es.length) :: rest)) := by
  refine va_callv (va_runI (As := []) (rest := rest) (Ts := mi_gt) ⟨hx, hb, hml, hown, hts⟩ (cc_2 l D cI cII cN (b + es.length)) (cwI 0 hts (mi_gi (mi_iwn 57 rfl)) rfl rfl rfl (hts _ (mi_iwn 54 rfl)) hlk (hts _ (mi_iwn 56 rfl)) rfl (by decide +kernel) ⟨hfr, hlo⟩) ⟨cc_blind, fun U hU hW => ⟨rfl, by rw [hU]; exact hw.last, KC.moved hW⟩⟩ rfl rfl hsz rfl (lv_room hroom) hdg ⟨hcells, hslots⟩) hS (fun q _ h => hA q (Nat.le_trans (Nat.le_add_right _ _) h)) (fun q h => hA q (Nat.le_trans (Nat.le_add_right _ _) h)) (fun u t H1 locs1 ht _ _ hB _ hk1 hS1 => ?_)
  have hB2 : Hw D (b + es.length) (ee_2 cI cII cN (b + es.length)) t.heap := hB
  rw [ht] at hB2
  have hH : H.size = b + es.length + 1 := by rw [hw.1, List.length_append, Nat.add_assoc]; rfl
  exact kk H1 locs1 (hw.join hB2 (fun q hq => hk1 q (by omega) (by omega))) hS1
theorem hw_callM (hx : p.tables.exec = Jvm.exec) (hb : c.code = cc) (hml : c.maxLocals = nL) (hsz : ls.size = nL) (hts : ∀ w ∈ mi_gt, w.before args s = true) (hown : s.vm.findClass own = some m.cls) (KC : mi_KC D cI cII cN s) (hw : Hw D b (es ++ [.inr (3, mi_bl 3)]) H) (hS : va_S A H0 H locs) (hA : ∀ q, b ≤ q → A q) (hlk : (Cond.methodLink own index yi3).before args s = true) (hcells : cells + 11 ≤ R.cells) (hslots : slots + 1557 ≤ R.slots) (hfr : 2 ≤ R.frames) (hlo : 40 ≤ R.locals) (hroom : (rest.map fun v => v.category).sum ≤ 8) (hdg : decode cc pc = .ok (.invokespecial index, 3))
    (kk : ∀ (H1 : Heap) (locs1 : List Loc), Hw D b (es ++ ee_3 cI cII cN (b + es.length)) H1 → va_S A H0 H1 locs1 → W p l e R s m args below meth c H1 locs1 (cells + 11) (slots + 1557) Q (F0 m (pc + 3) ls rest)) : W p l e R s m args below meth c H locs cells slots Q (F0 m pc ls (.ref (b + es.length) :: rest)) := by
  refine va_callv (va_runI (As := []) (rest := rest) (Ts := mi_gt) ⟨hx, hb, hml, hown, hts⟩ (cc_3 l D cI cII cN (b + es.length)) (cwI 0 hts (mi_gi (mi_iwn 63 rfl)) rfl rfl rfl (hts _ (mi_iwn 60 rfl)) hlk (hts _ (mi_iwn 62 rfl)) rfl (by decide +kernel) ⟨hfr, hlo⟩) ⟨cc_blind, fun U hU hW => ⟨rfl, by rw [hU]; exact hw.last, KC.moved hW⟩⟩ rfl rfl hsz rfl (lv_room hroom) hdg ⟨hcells, hslots⟩) hS (fun q _ h => hA q (Nat.le_trans (Nat.le_add_right _ _) h)) (fun q h => hA q (Nat.le_trans (Nat.le_add_right _ _) h)) (fun u t H1 locs1 ht _ _ hB _ hk1 hS1 => ?_)
  have hB2 : Hw D (b + es.length) (ee_3 cI cII cN (b + es.length)) t.heap := hB
  rw [ht] at hB2
  have hH : H.size = b + es.length + 1 := by rw [hw.1, List.length_append, Nat.add_assoc]; rfl
  exact kk H1 locs1 (hw.join hB2 (fun q hq => hk1 q (by omega) (by omega))) hS1
end CX
theorem dl_0 : decode code 0 = .ok (.new 7, 3) := by decide +kernel
theorem dl_3 : decode code 3 = .ok (.dup, 1) := by decide +kernel
theorem dl_4 : decode code 4 = .ok (.invokespecial 9, 3) := by decide +kernel
theorem dl_7 : decode code 7 = .ok (.astore_n 1, 1) := by decide +kernel
theorem dl_8 : decode code 8 = .ok (.new 10, 3) := by decide +kernel
theorem dl_11 : decode code 11 = .ok (.dup, 1) := by decide +kernel
theorem dl_12 : decode code 12 = .ok (.invokespecial 12, 3) := by decide +kernel
theorem dl_15 : decode code 15 = .ok (.astore_n 2, 1) := by decide +kernel
theorem dl_16 : decode code 16 = .ok (.iconst 0, 1) := by decide +kernel
theorem dl_17 : decode code 17 = .ok (.istore_n 3, 1) := by decide +kernel
/-- the classes' numbers -/
def mk_D (c0 c1 c2 c3 : ClassId) (i0 i1 i2 i3 : Nat → Nat) : va_G := (fun k => match k with
  | 0 => c0
  | 1 => c1
  | 2 => c2
  | _ => c3, fun k => match k with
  | 0 => i0
  | 1 => i1
  | 2 => i2
  | _ => i3)
theorem first_K {args : Array Value} {s : State} (htbl : ∀ w ∈ lw_tbl, w.before args s = true) : ∃ (D : va_G) (cI cII cN : ClassId), mi_KC D cI cII cN s := by
  have hts : ∀ w ∈ mi_gt, w.before args s = true := fun w hw => htbl w (List.mem_filter.mp hw).1
  obtain ⟨c0, i0, k0⟩ := u_known (N := 8) hts mi_w_X0 (hts _ (mi_iwn 34 rfl))
  obtain ⟨c1, i1, k1⟩ := u_known (N := 5) hts mi_w_X1 (hts _ (mi_iwn 40 rfl))
  obtain ⟨c2, i2, k2⟩ := u_known (N := 8) hts mi_w_X2 (hts _ (mi_iwn 53 rfl))
  obtain ⟨c3, i3, k3⟩ := u_known (N := 19) hts mi_w_X3 (hts _ (mi_iwn 59 rfl))
  obtain ⟨cI, kI, comp, a1, a2, a3⟩ := Cond.arrayClass_spec (hts (.arrayClass .int) (mi_wd_in (by decide +kernel)))
  have o1 : (Cond.arrayOver (.array .int)).before args s = true := htbl _ (List.mem_of_getElem? (i := 97) rfl)
  have o2 : (Cond.arrayOver (.object "SlipStore$Net")).before args s = true := htbl _ (List.mem_of_getElem? (i := 128) rfl)
  obtain ⟨cA, cII, kII, b1, -, b2, b3, b4⟩ := arrayOverA_spec o1
  obtain ⟨cB, cN, kN, d1, -, d2, d3, d4⟩ := Cond.arrayOver_spec o2
  refine ⟨mk_D c0 c1 c2 c3 i0 i1 i2 i3, cI, cII, cN, ⟨fun ci q hq => ?_, fun k q hk => ?_⟩, mi_aoa.of o1, va_AO.of o2, va_Nw.of rfl (htbl _ (List.mem_of_getElem? (i := 131) rfl))⟩
  · rcases ci with _ | _ | _ | _ | ci
    · cases hq; exact k0
    · cases hq; exact k1
    · cases hq; exact k2
    · cases hq; exact k3
    · cases hq
  · rcases k with _ | _ | _ | k
    · cases hk; exact ⟨fun n z => ⟨(fun k h => by cases h), kI, a2, comp, a3⟩, a1⟩
    · cases hk; exact ⟨fun n z => ⟨(fun k h => by cases h), kII, b2, cA, b3⟩, b4⟩
    · cases hk; exact ⟨fun n z => ⟨(fun k h => by cases h), kN, d2, cB, d3⟩, kN, cB, d2, d3, d1, d4⟩
    · cases hk
theorem first_st {b : Nat} {s : State} (htbl : ∀ w ∈ lw_tbl, w.before #[Value.ref b] s = true) (hgv : (Jvm.Cond.and given_1 narrow_1).before #[Value.ref b] s = true) : ∃ lr mr : Nat, va_Z "SlipStore" "LEAST_SETTING" "[I" (.ref lr) (fun q => s.heap.size ≤ q) s s.heap ∧ va_T .int lr 3 (fun j => .int (mi_c60 j)) (fun q => s.heap.size ≤ q) s s.heap ∧ va_Z "SlipStore" "MOST_SETTING" "[I" (.ref mr) (fun q => s.heap.size ≤ q) s s.heap ∧ va_T .int mr 3 (fun j => .int (mi_c61 j)) (fun q => s.heap.size ≤ q) s s.heap := by
  have hs := flat_of_before _ hgv
  have hA : ∀ a : Nat, a < s.heap.size → ¬ s.heap.size ≤ a := fun a h => Nat.not_le.mpr h
  have hini : (Cond.initialized "SlipStore").before #[Value.ref b] s = true := htbl _ (List.mem_filter.mp (mi_iwn 54 rfl)).1
  obtain ⟨lr, e1, t1⟩ := va_Tof (f := fun j => .int (mi_c60 j)) (N := 3) (by decide) (hs (.arrayOf (.static "SlipStore" "LEAST_SETTING" "[I") .int) (by decide +kernel)) (va_eqt (hs (.eq (.length (.static "SlipStore" "LEAST_SETTING" "[I")) (.int 3)) (by decide +kernel))) (fun j hj => by
    rcases j with _ | _ | _ | j
    · exact va_eqt (hs (.eq (.elem (.static "SlipStore" "LEAST_SETTING" "[I") (.int 0)) (.int 4)) (by decide +kernel))
    · exact va_eqt (hs (.eq (.elem (.static "SlipStore" "LEAST_SETTING" "[I") (.int 1)) (.int 0)) (by decide +kernel))
    · exact va_eqt (hs (.eq (.elem (.static "SlipStore" "LEAST_SETTING" "[I") (.int 2)) (.int 1)) (by decide +kernel))
    · omega) hA
  obtain ⟨mr, e2, t2⟩ := va_Tof (f := fun j => .int (mi_c61 j)) (N := 3) (by decide) (hs (.arrayOf (.static "SlipStore" "MOST_SETTING" "[I") .int) (by decide +kernel)) (va_eqt (hs (.eq (.length (.static "SlipStore" "MOST_SETTING" "[I")) (.int 3)) (by decide +kernel))) (fun j hj => by
    rcases j with _ | _ | _ | j
    · exact va_eqt (hs (.eq (.elem (.static "SlipStore" "MOST_SETTING" "[I") (.int 0)) (.int 64)) (by decide +kernel))
    · exact va_eqt (hs (.eq (.elem (.static "SlipStore" "MOST_SETTING" "[I") (.int 1)) (.int 128)) (by decide +kernel))
    · exact va_eqt (hs (.eq (.elem (.static "SlipStore" "MOST_SETTING" "[I") (.int 2)) (.int 9)) (by decide +kernel))
    · omega) hA
  exact ⟨lr, mr, va_Zref (htbl _ (List.mem_of_getElem? (i := 245) rfl)) hini e1 hA, t1, va_Zref (htbl _ (List.mem_of_getElem? (i := 247) rfl)) hini e2 hA, t2⟩
/-- the law's loop over the small machine ends with 1 -/
theorem first_run {L : Nat} (hL : L ≤ 2048) (xs : Nat → Int32) : ∃ (n : Nat) (M' : mM), mi_exN n 143 18 [(0, mR 50 0 0), (1, mR 2 0 0), (2, mR 3 0 0), (3, mI 0)] [] (mem0 L xs) = some (.inl 1, M') := by
  obtain ⟨M', h⟩ := cL_all hL (M := mem0 L xs) rfl (first_Rl L xs)
  unfold fL_law_L18 mi_ex at h
  rw [Option.bind_eq_some_iff] at h
  obtain ⟨⟨v, M2⟩, h1, h2⟩ := h
  rcases v with x | x
  · have e : some (x, M2) = some (1, M') := h2
    cases e
    obtain ⟨n, hn⟩ := (mi_run_iff _ _ _ _ _ _).mp h1
    exact ⟨n, _, hn⟩
  · exfalso
    rcases x with x | x <;> cases h2
/-! THE CLAIM OUT OF ONE WALK OF THE LAW'S BODY. Your part is whole_start (and what it stands on); all else here is the same for every law, but numbers. -/
def R_law : String := "SlipStoreLaw"
def lw_P (b : Addr) (xs : List Int32) (args : Array Value) (s : State) : Prop := args = #[.ref b] ∧ s.IntsAt b xs ∧ xs.length ≤ 2048 ∧ (Jvm.Cond.and given_1 narrow_1).before args s = true
def lw_Q (_ : Array Value) (s : State) (o : Outcome) (t : State) : Prop := o = .returned (some (.int 1)) ∧ Framed s o t [] 600000 7302250
def lw_Z (below : List Frame) (a : Array Value) (s : State) : State → Prop := fun t => ∃ o, t.status = .running ∧ Ended t below o ∧ lw_Q a s o t
/-- the law's own end, with 1 on the stack, nothing written that was there before, its room as the claim has it -/
theorem lw_ret {p : Program} {l : Launch} {e : Env} {s : State} {m : MethodId} {below : List Frame} {meth : Method} {c : Code} {b : Nat} (hx : p.tables.exec = Jvm.exec) (hb : c.code = code) (hr : meth.sig.returnType = ret) (hlocks : meth.locks = false) {pc : Nat} {H : Heap} {ls : Array Slot} (hdg : decode code pc = .ok (.ireturn, 1)) : W p l e room_1 s m #[Value.ref b] below meth c H [] 600000 7302250 (lw_Z below #[Value.ref b] s) (F0 m pc ls [.int 1]) := by
  intro T hT X
  obtain ⟨fs, hret, hrun, hended, hW, hframe⟩ := X.leave (v := some (.int 1)) (hlocks := hlocks) (fun h => by rw [hr] at h; cases h)
  have hmeth' : T.vm.method? m = some meth := X.method'
  refine ⟨T.setFrames fs, ?_, .returned (some (.int 1)), hrun, hended, rfl, ⟨_, rfl⟩, hW, hframe⟩
  jvm_step X.here [X.here.top, hx, hb, hdg, hmeth', hr, ret, narrow_b1]
  (try refine ⟨rfl, ?_⟩); (try refine ⟨rfl, ?_⟩)
  first | (intro acts; rw [hret _ acts rfl rfl rfl]) | rw [hret _ _ rfl rfl rfl]
  exact Steps.refl _
/-- what holds at the law's entry: the machine, the code, the tables' words (any of lw_tbl by 'hts w (by decide +kernel)'), the script of L ints xs at the cell b, what the Statement gives of the start (any of its parts by flat_of_before) -/
def lw_At (p : Program) (s : State) (m : MethodId) (meth : Method) (c : Code) (b L : Nat) (xs : Nat → Int32) : Prop :=
  p.tables.exec = Jvm.exec ∧ c.code = code ∧ meth.sig.returnType = ret ∧ c.maxLocals = 4 ∧ s.vm.findClass R_law = some m.cls ∧ (∀ w ∈ lw_tbl, w.before #[Value.ref b] s = true) ∧ va_X b L xs s s.heap ∧ b < s.heap.size ∧ meth.locks = false ∧ (Jvm.Cond.and given_1 narrow_1).before #[Value.ref b] s = true

set_option maxHeartbeats 4000000 in
set_option maxRecDepth 100000 in
/-- from the entry, for every script of at most 2048 ints, the law comes to its end with true -/
theorem whole_start {p : Program} {e : Env} {s : State} {m : MethodId} {below : List Frame} {meth : Method} {c : Code} (l : Launch) (hflags : l.flags = flags0) {b L : Nat} {xs : Nat → Int32} (hL : L ≤ 2048) (C0 : lw_At p s m meth c b L xs) : W p l e room_1 s m #[Value.ref b] below meth c s.heap [] 0 0 (lw_Z below #[Value.ref b] s) (entryFrame m ([Value.ref b] : List Value).toArray 4) := by
  obtain ⟨hx, hb, hr, hml, hown, htbl, hX, hbl, hlocks, hgv⟩ := C0
  have hown : s.vm.findClass "SlipStoreLaw" = some m.cls := hown
  have hts : ∀ w ∈ mi_gt, w.before #[Value.ref b] s = true := fun w hw => htbl w (List.mem_filter.mp hw).1
  obtain ⟨D, cI, cII, cN, KC⟩ := first_K htbl
  obtain ⟨lr, mr, z1, t1, z2, t2⟩ := first_st htbl hgv
  have hK := KC.1
  have hw : Hw D s.heap.size [] s.heap := ⟨rfl, fun k x hx => by cases hx⟩
  have hS : va_S (fun q => s.heap.size ≤ q) s.heap s.heap [] := va_S.rf
  have hl := lv_entry ([.ref b]) (n := 4) (Nat.le_of_ble_eq_true rfl)
  rw [lg_entry_eq]
  generalize (lg_sl ([.ref b]) ++ List.replicate (4 - (lg_sl ([.ref b])).length) Slot.unset).toArray = ls at hl ⊢
  have hl : lv_has ls 4 [(0, .ref b)] := hl
  refine hw_new (ci := 2) (own := "SlipStoreLaw") hx hb hts hown rfl (hts _ (mi_iwn 52 rfl)) (hts _ (mi_iwn 53 rfl)) (hts _ (mi_iwn 54 rfl)) hK hw hS (Nat.le_of_ble_eq_true rfl) (Nat.le_of_ble_eq_true rfl) dl_0 (fun H1 hw hS => ?_)
  refine lv_dup hx hb dl_3 rfl ?_
  refine hw_callX (own := "SlipStoreLaw") hx hb hml hl.1 hts hown KC hw hS (fun _ h => h) (hts _ (mi_iwn 55 rfl)) (Nat.le_of_ble_eq_true rfl) (Nat.le_of_ble_eq_true rfl) (Nat.le_of_ble_eq_true rfl) (Nat.le_of_ble_eq_true rfl) (Nat.le_of_ble_eq_true rfl) dl_4 (fun H2 locs2 hw hS => ?_)
  have hw : Hw D s.heap.size (ee_2 cI cII cN s.heap.size) H2 := hw
  refine lv_astore_n (x := s.heap.size) (lv' := [(1, .ref s.heap.size), (0, .ref b)]) hx hb dl_7 rfl hl (by decide) rfl (fun ls hl => ?_)
  refine hw_new (ci := 3) (own := "SlipStoreLaw") hx hb hts hown rfl (hts _ (mi_iwn 58 rfl)) (hts _ (mi_iwn 59 rfl)) (hts _ (mi_iwn 60 rfl)) hK hw hS (Nat.le_of_ble_eq_true rfl) (Nat.le_of_ble_eq_true rfl) dl_8 (fun H3 hw hS => ?_)
  refine lv_dup hx hb dl_11 rfl ?_
  refine hw_callM (own := "SlipStoreLaw") hx hb hml hl.1 hts hown KC hw hS (fun _ h => h) (hts _ (mi_iwn 61 rfl)) (Nat.le_of_ble_eq_true rfl) (Nat.le_of_ble_eq_true rfl) (Nat.le_of_ble_eq_true rfl) (Nat.le_of_ble_eq_true rfl) (Nat.le_of_ble_eq_true rfl) dl_12 (fun H4 locs4 hw hS => ?_)
  rw [show (ee_2 cI cII cN s.heap.size).length = 241 from x2_el cI cII cN s.heap.size 5] at hw ⊢
  refine lv_astore_n (x := s.heap.size + 241) (lv' := [(2, .ref (s.heap.size + 241)), (1, .ref s.heap.size), (0, .ref b)]) hx hb dl_15 rfl hl (by decide) rfl (fun ls hl => ?_)
  refine lv_iconst (v := 0) hx hb dl_16 (by decide) ?_
  refine lv_istore_n (lv' := [(3, .int 0), (2, .ref (s.heap.size + 241)), (1, .ref s.heap.size), (0, .ref b)]) hx hb dl_17 rfl hl (by decide) rfl (fun ls hl => ?_)
  refine va_forget hS.2.2 ?_
  have hAA : ∀ q, mi_A (mi_ad s.heap.size b lr mr) q → s.heap.size ≤ q := fun q hq => Nat.not_lt.mp fun h => mi_ad_A h hq
  obtain ⟨scr, x1, x2, x3, x4, x5⟩ := hX
  have hmK : mi_K (mi_ad s.heap.size b lr mr) D cI cII cN L xs s := ⟨hK, va_Nw.of rfl (htbl _ (List.mem_of_getElem? (i := 207) rfl)), va_Nw.of rfl (htbl _ (List.mem_of_getElem? (i := 244) rfl)), va_Nw.of rfl (htbl _ (List.mem_of_getElem? (i := 246) rfl)), z1.narrow hAA, t1.narrow hAA, z2.narrow hAA, t2.narrow hAA, ⟨scr, x1, x2, x3, Nat.le_of_eq x4.symm, congrArg Int32.ofNat x4, x5, mi_ad_A hbl⟩, by omega⟩
  obtain ⟨n, M', hrun⟩ := first_run hL xs
  refine mi_sound n 143 (by decide) ⟨hx, hb, hml, hown, hts, hmK, ⟨(Nat.le_of_ble_eq_true rfl), (Nat.le_of_ble_eq_true rfl)⟩, mi_ad_inj _ _ _ _, (Nat.le_of_ble_eq_true rfl), (Nat.le_of_ble_eq_true rfl)⟩ 18 _ [] (mem0 L xs) _ hrun ?_ H4 [] ls ⟨first_at hw.2, fun k hk => hk, fun j _ => rfl, rfl⟩ ⟨hS.1, fun q h1 _ => hS.2.1 q h1 (Nat.not_le.mpr h1), fun q hq => by cases hq⟩ (lv_sub hl [3, 2, 1, 0] rfl) ⟨Or.inr (Or.inl rfl), Or.inl mi_m1.2.1, Or.inl mi_m1.2.2.1, trivial, trivial⟩ trivial
  intro pc' H' locs' A' hd _ _ hS'
  refine va_forget (fun q hq => hAA _ (hS'.2.2 q hq)) ?_
  refine W.widen (k := 600000) (n := 7302250) (Nat.le_of_ble_eq_true rfl) (Nat.le_of_ble_eq_true rfl) ?_
  exact lw_ret hx hb hr hlocks hd
