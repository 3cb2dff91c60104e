/-! ROWS OF OUR OWN: all cells from an address on, one behind another -/
def Hw (D : va_G) (b : Nat) (es : List va_E) (H : Heap) : Prop := H.size = b + es.length ∧ ∀ (k : Nat) (x : va_E), es[k]? = some x → va_at D vwCl (b + k, x) H
theorem Hw.more {D : va_G} {b : Nat} {es ys : List va_E} {H H1 : Heap} (h : Hw D b es H) (hz : H1.size = H.size + ys.length) (ho : ∀ q : Nat, q < H.size → H1[q]? = H[q]?) (hy : ∀ (k : Nat) (y : va_E), ys[k]? = some y → va_at D vwCl (H.size + k, y) H1) : Hw D b (es ++ ys) H1 := by
  obtain ⟨h1, h2⟩ := h
  refine ⟨by rw [hz, h1, List.length_append, Nat.add_assoc], fun k x hx => ?_⟩
  by_cases hk : k < es.length
  · rw [List.getElem?_append_left hk] at hx
    exact (h2 k x hx).kept (ho (b + k) (by omega))
  · rw [List.getElem?_append_right (by omega)] at hx
    have := hy _ x hx
    rw [show H.size + (k - es.length) = b + k by omega] at this
    exact this
theorem Hw.app {D : va_G} {b : Nat} {es : List va_E} {x : va_E} {H H1 : Heap} (h : Hw D b es H) (hz : H1.size = H.size + 1) (ho : ∀ q : Nat, q < H.size → H1[q]? = H[q]?) (hx : va_at D vwCl (H.size, x) H1) : Hw D b (es ++ [x]) H1 :=
  h.more hz ho (fun k y hy => by
    have h0 : k < 1 := (List.getElem?_eq_some_iff.mp hy).1
    rw [show k = 0 by omega] at hy ⊢
    cases hy
    exact hx)
theorem Hw.set {D : va_G} {b i : Nat} {es : List va_E} {x x0 : va_E} {H H1 : Heap} (h : Hw D b es H) (he : es[i]? = some x0) (hz : H1.size = H.size) (ho : ∀ q : Nat, q ≠ b + i → H1[q]? = H[q]?) (hx : va_at D vwCl (b + i, x) H1) : Hw D b (es.set i x) H1 := by
  obtain ⟨h1, h2⟩ := h
  refine ⟨by rw [hz, h1, List.length_set], fun k y hy => ?_⟩
  by_cases hk : k = i
  · subst hk
    have hl : k < es.length := (List.getElem?_eq_some_iff.mp he).1
    rw [List.getElem?_set_self hl] at hy
    cases hy
    exact hx
  · rw [List.getElem?_set_ne (Ne.symm hk)] at hy
    exact (h2 k y hy).kept (ho (b + k) (by omega))
theorem va_S.grow {A : Nat → Prop} {H0 H H1 : Heap} {locs : List Loc} (h : va_S A H0 H locs) (hz : H.size ≤ H1.size) (ho : ∀ q : Nat, q < H.size → H1[q]? = H[q]?) : va_S A H0 H1 locs :=
  ⟨Nat.le_trans h.1 hz, fun q h1 h2 => (ho q (Nat.lt_of_lt_of_le h1 h.1)).trans (h.2.1 q h1 h2), h.2.2⟩
def mi_bl (ci : Nat) : List Value := (List.range (mi_nf ci)).map fun k => defaultValue (mi_ty ci k)
theorem mi_bl_V (ci : Nat) : ∀ j, j < mi_nf ci → defaultValue (mi_ty ci j) = vp_V (mi_bl ci) j := fun j hj => by
  unfold vp_V mi_bl
  rw [List.getD_eq_getElem?_getD, List.getElem?_map, List.getElem?_range hj]
  rfl
def mi_tys (cI cII cN : ClassId) : List (ClassId × FieldType) := [(cI, .int), (cII, .array .int), (cN, .object "SlipStore$Net")]
section RW
variable {p : Program} {l : Launch} {e : Env} {R : Room} {s : State} {m : MethodId} {args : Array Value} {below : List Frame} {meth : Method} {c : Code} {H : Heap} {locs : List Loc} {cells slots : Nat} {Q : State → Prop}
variable {cc : ByteArray} {pc : Nat} {ls : Array Slot} {rest : List Value} {D : va_G} {A : Nat → Prop} {cI cII cN : ClassId} {H0 : Heap} {b : Nat} {es : List va_E} {own : String} {index : Nat}
theorem hw_new (hx : p.tables.exec = Jvm.exec) (hb : c.code = cc) (hts : ∀ w ∈ mi_gt, w.before args s = true) (hown : s.vm.findClass own = some m.cls) {ci : Nat} (hci : Nat.blt ci 4 = true) (hcl : (Cond.classLink own index (mi_RX ci)).before args s = true) (hinst : (Cond.instantiable (mi_RX ci) (mi_nf ci)).before args s = true) (hini : (Cond.initialized (mi_RX ci)).before args s = true)
    (hK : va_K D vwCl (mi_tys cI cII cN) s) (hw : Hw D b es H) (hS : va_S A H0 H locs) (hcells : cells + 1 ≤ R.cells) (hslots : slots + mi_nf ci ≤ R.slots) (hdg : decode cc pc = .ok (.new index, 3))
    (kk : ∀ H1 : Heap, Hw D b (es ++ [.inr (ci, mi_bl ci)]) H1 → va_S A H0 H1 locs → W p l e R s m args below meth c H1 locs (cells + 1) (slots + mi_nf ci) Q (F0 m (pc + 3) ls (.ref (b + es.length) :: rest))) : W p l e R s m args below meth c H locs cells slots Q (F0 m pc ls rest) := by
  obtain ⟨hc, hin, hty, -⟩ := mi_c4 hci
  have hKn := hK.1 ci _ hc
  refine W.newcK hx hb hown hcl hinst hini rfl hdg hcells hslots hKn.2.1 hw.1 fun H1 kC hkC e1 z1 o1 => ?_
  rw [← hw.1] at e1 z1 o1
  exact kk H1 (hw.app z1 o1 ⟨_, hc, (u_born (mi_ty ci) hts hin hKn hkC e1 hty).to (mi_bl_V ci)⟩) (hS.grow (by omega) o1)
theorem hw_newa (hx : p.tables.exec = Jvm.exec) (hb : c.code = cc) (harr : (Cond.arrayClass .int).before args s = true) (hK : va_K D vwCl (mi_tys cI cII cN) s) (hw : Hw D b es H) (hS : va_S A H0 H locs) {n : Int32} {N : Nat} (hn : ¬ n < 0) (hN : n.toNatClampNeg = N) (hbytes : N * 4 ≤ 536870912) (hcells : cells + 1 ≤ R.cells) (hslots : slots + N ≤ R.slots) (hdg : decode cc pc = .ok (.newarray .int, 2))
    (kk : ∀ H1 : Heap, Hw D b (es ++ [.inl (cI, N, .inl fun _ => 0)]) H1 → va_S A H0 H1 locs → W p l e R s m args below meth c H1 locs (cells + 1) (slots + N) Q (F0 m (pc + 2) ls (.ref (b + es.length) :: rest))) : W p l e R s m args below meth c H locs cells slots Q (F0 m pc ls (.int n :: rest)) := by
  refine va_newaK (atype := .int) hx hb harr rfl hdg rfl hn hN hbytes hcells hslots hw.1 fun H1 cA e1 z1 o1 hAr hNm => ?_
  have hcA : cA = cI := Option.some.inj (hNm.symm.trans (hK.2 0 _ rfl).2)
  subst hcA
  rw [← hw.1] at e1 z1 o1
  exact kk H1 (hw.app z1 o1 e1) (hS.grow (by omega) o1)
theorem hw_newq (hx : p.tables.exec = Jvm.exec) (hb : c.code = cc) (hown : s.vm.findClass own = some m.cls) (hcl : (Cond.classLink own index "SlipStore$Net").before args s = true) (hover : va_AO "SlipStore$Net" s) (hK : va_K D vwCl (mi_tys cI cII cN) s) (hw : Hw D b es H) (hS : va_S A H0 H locs) {n : Int32} {N : Nat} (hn : ¬ n < 0) (hN : n.toNatClampNeg = N) (hbytes : N * 4 ≤ 536870912) (hcells : cells + 1 ≤ R.cells) (hslots : slots + N ≤ R.slots) (hdg : decode cc pc = .ok (.anewarray index, 3))
    (kk : ∀ H1 : Heap, Hw D b (es ++ [.inl (cN, N, .inr (.inr (.inr (.inr fun _ => none))))]) H1 → va_S A H0 H1 locs → W p l e R s m args below meth c H1 locs (cells + 1) (slots + N) Q (F0 m (pc + 3) ls (.ref (b + es.length) :: rest))) : W p l e R s m args below meth c H locs cells slots Q (F0 m pc ls (.int n :: rest)) := by
  subst hN
  refine W.anew hx hb hown hcl (va_AO.use hover) rfl hdg rfl hn hbytes hcells hslots fun cA kA comp f1 f2 f3 f4 => ?_
  obtain ⟨kA', comp', -, -, -, hNm⟩ := (hK.2 2 _ rfl).2
  have hcA : cA = cN := Option.some.inj (f1.symm.trans hNm)
  subst hcA
  have e1 : (H.push ({ cls := cA, slots := Array.replicate n.toNatClampNeg .null, vm := .none } : Cell))[H.size]? = some (vp_cell cA (n.toNatClampNeg, .inr (.inr (.inr (.inr fun _ => none))))) := by
    rw [Array.getElem?_push_size, vp_cell_q, arrV_new]
    rfl
  have o1 : ∀ q : Nat, q < H.size → (H.push ({ cls := cA, slots := Array.replicate n.toNatClampNeg .null, vm := .none } : Cell))[q]? = H[q]? := fun q hq => by rw [Array.getElem?_push, if_neg (Nat.ne_of_lt hq)]
  have z1 : (H.push ({ cls := cA, slots := Array.replicate n.toNatClampNeg .null, vm := .none } : Cell)).size = H.size + 1 := Array.size_push _
  refine W.eq (g2 := F0 m (pc + 3) ls (.ref (b + es.length) :: rest)) (by rw [← hw.1]) ?_
  exact kk _ (hw.app z1 o1 e1) (hS.grow (by rw [z1]; exact Nat.le_succ _) o1)
theorem hw_put (hx : p.tables.exec = Jvm.exec) (hb : c.code = cc) (hts : ∀ w ∈ mi_gt, w.before args s = true) (hown : s.vm.findClass own = some m.cls) (hin2 : meth.name = "<init>") {ci : Nat} (hci : Nat.blt ci 4 = true) (hK : va_K D vwCl (mi_tys cI cII cN) s) (hw : Hw D b es H) (hS : va_S A H0 H locs) {i : Nat} (hA : A (b + i)) {fs : List Value} (he : es[i]? = some (.inr (ci, fs))) (k : Nat) (hk : k < mi_nf ci) (hl : k < fs.length) (hlink : (Cond.fieldLink own index (mi_TX ci k).1 (mi_TX ci k).2.1 (mi_TX ci k).2.2.1).before args s = true) (hdecl : (mi_TX ci k).1 = own) {v : Value} (hn : narrow (mi_ty ci k) v = v) (hfit : fits (mi_ty ci k) v = true) (hdg : decode cc pc = .ok (.putfield index, 3))
    (kk : ∀ (H1 : Heap) (locs1 : List Loc), Hw D b (es.set i (.inr (ci, fs.set k v))) H1 → va_S A H0 H1 locs1 → W p l e R s m args below meth c H1 locs1 cells slots Q (F0 m (pc + 3) ls rest)) : W p l e R s m args below meth c H locs cells slots Q (F0 m pc ls (v :: .ref (b + i) :: rest)) := by
  obtain ⟨hc, hin, hty, hnm⟩ := mi_c4 hci
  have hap := va_apart (own := own) hts hin (mi_ty ci) hty hnm hK hc
  obtain ⟨r, h1, cell, q1, q2, q3, q4⟩ := hw.2 i _ he
  have hr : r = (mi_RX ci, mi_TX ci, mi_nf ci) := Option.some.inj (h1.symm.trans hc)
  subst hr
  obtain ⟨hSl, hfc, kC, hkC, hkind⟩ := hK.1 ci _ hc
  obtain ⟨cf, kf, fi, f, hi, hsl⟩ := hSl k hk
  have hlay := hts _ (hin _ (u_in_lay hk))
  have hst := (u_facts hfc hkC (u_lays hts hin hk) hi).1
  have fin : ∀ H' : Heap, H'[b + i]? = some (cell.setSlot f.slot v) → H'.size = H.size → (∀ q, q ≠ b + i → H'[q]? = H[q]?) → W p l e R s m args below meth c H' (locs ++ [⟨b + i, f.slot⟩]) cells slots Q (F0 m (pc + 3) ls rest) := fun H' e1 e2 e3 => by
    rw [hsl] at e1 ⊢
    exact kk H' _ (hw.set he e2 e3 ⟨_, hc, t_OB.to (V := updV (vp_V fs) k v) ⟨_, e1, q2, q3, t_set q4 hap hk v⟩ (fun j _ => vp_updV_set hl v j)⟩) (hS.put e2 e3 hA)
  unfold u_lay at hlay
  by_cases hfin : (mi_TX ci k).2.2.2 = true
  · rw [if_pos hfin] at hlay
    have hcf : m.cls = cf := by
      obtain ⟨_, _, c', _, _, _, -, -, hf', -, -, -, hown2, -⟩ := Cond.laysFinal_spec hlay
      have e1 : c' = cf := by have := hi.symm.trans hf'; simp at this; exact this.1.symm
      rw [hdecl] at hown2
      rw [← e1]; exact Option.some.inj (hown.symm.trans hown2)
    have h6 := u_fits hfc hkC hkind (Or.inr hlay) hi (hty k hk) hn hfit
    exact W.putFinK hx hb hown hlink hi hst hcf hin2 (by rw [q2]; exact h6) q1 q3 (by rw [hsl]; exact k2_hasslot (q4 k hk)) rfl rfl hdg fin
  · rw [if_neg hfin] at hlay
    have h6 := u_store hfc hkC hkind hlay hi (hty k hk) hn hfit
    exact W.putK hx hb (f := f) ⟨hown, hlink, ⟨_, _, _, hi⟩, hst⟩ (by rw [q2]; exact h6) q1 q3 (by rw [hsl]; exact k2_hasslot (q4 k hk)) rfl rfl hdg fin
theorem hw_get (hx : p.tables.exec = Jvm.exec) (hb : c.code = cc) (hts : ∀ w ∈ mi_gt, w.before args s = true) (hown : s.vm.findClass own = some m.cls) {ci : Nat} (hci : Nat.blt ci 4 = true) (hK : va_K D vwCl (mi_tys cI cII cN) s) (hw : Hw D b es H) {i : Nat} {fs : List Value} (he : es[i]? = some (.inr (ci, fs))) (k : Nat) (hk : k < mi_nf ci) (hlink : (Cond.fieldLink own index (mi_TX ci k).1 (mi_TX ci k).2.1 (mi_TX ci k).2.2.1).before args s = true) {v : Value} (hv : fs[k]? = some v) (hdg : decode cc pc = .ok (.getfield index, 3))
    (kk : W p l e R s m args below meth c H locs cells slots Q (F0 m (pc + 3) ls (v :: rest))) : W p l e R s m args below meth c H locs cells slots Q (F0 m pc ls (.ref (b + i) :: rest)) := by
  obtain ⟨hc, hin, hty, hnm⟩ := mi_c4 hci
  refine va_get (ws := [(b + i, .inr (ci, fs))]) hx hb hts hin hown hK (fun k' q hq => ?_) 0 rfl hc k hk hlink (fun _ z => z) hv hdg kk
  have h0 : k' < 1 := (List.getElem?_eq_some_iff.mp hq).1
  rw [show k' = 0 by omega] at hq
  cases hq
  exact hw.2 i _ he
theorem hw_iast (hx : p.tables.exec = Jvm.exec) (hb : c.code = cc) (hK : va_K D vwCl (mi_tys cI cII cN) s) (hw : Hw D b es H) (hS : va_S A H0 H locs) {i : Nat} (hA : A (b + i)) {n : Nat} {f : Nat → Int32} (he : es[i]? = some (.inl (cI, n, .inl f))) {j x : Int32} (hin : vp_in j n) (hdg : decode cc pc = .ok (.iastore, 1))
    (kk : ∀ (H1 : Heap) (locs1 : List Loc), Hw D b (es.set i (.inl (cI, n, .inl (upd f j.toNatClampNeg x)))) H1 → va_S A H0 H1 locs1 → W p l e R s m args below meth c H1 locs1 cells slots Q (F0 m (pc + 1) ls rest)) : W p l e R s m args below meth c H locs cells slots Q (F0 m pc ls (.int x :: .int j :: .ref (b + i) :: rest)) := by
  refine W.iast hx hb (hw.2 i _ he) ((hK.2 0 _ rfl).1 n (fun j => .int (f j))) (fun q => by cases q) (by show ¬ (j < 0 ∨ (arrV _ _ _).slots.size ≤ _); rw [arrV_size]; exact hin) rfl rfl hdg fun H1 e1 z1 o1 => ?_
  refine kk H1 _ (hw.set he z1 o1 ?_) (hS.put z1 o1 hA)
  show H1[b + i]? = some (vp_cell _ _)
  rw [e1, vp_cell_i, vp_cell_i, arrV_store]
  refine congrArg (fun z => some (arrV cI n z)) (funext fun q => ?_)
  by_cases hq : q = j.toNatClampNeg
  · subst hq
    simp [updV, upd]
  · simp [updV, upd, hq]
theorem hw_astq (hx : p.tables.exec = Jvm.exec) (hb : c.code = cc) (hK : va_K D vwCl (mi_tys cI cII cN) s) (hw : Hw D b es H) (hS : va_S A H0 H locs) {i v : Nat} (hA : A (b + i)) {n : Nat} {f : Nat → Option Nat} (he : es[i]? = some (.inl (cN, n, .inr (.inr (.inr (.inr f)))))) {vs : List Value} (hv : es[v]? = some (.inr (0, vs))) {j : Int32} (hin : vp_in j n) (hdg : decode cc pc = .ok (.aastore, 1))
    (kk : ∀ (H1 : Heap) (locs1 : List Loc), Hw D b (es.set i (.inl (cN, n, .inr (.inr (.inr (.inr (va_up f j.toNatClampNeg (some (b + v))))))))) H1 → va_S A H0 H1 locs1 → W p l e R s m args below meth c H1 locs1 cells slots Q (F0 m (pc + 1) ls rest)) : W p l e R s m args below meth c H locs cells slots Q (F0 m pc ls (.ref (b + v) :: .int j :: .ref (b + i) :: rest)) := by
  have hlt : j.toNatClampNeg < n := Nat.not_le.mp fun q => hin (Or.inr q)
  have h0 : ¬ j < 0 := fun q => hin (Or.inl q)
  obtain ⟨hc, -⟩ := mi_c4 (c := 0) rfl
  obtain ⟨r', hr', cellV, g1, g2, g3, -⟩ := hw.2 v _ hv
  have hcls := (hK.1 0 _ hc).2
  obtain ⟨kA, comp, k1, k2, k3, -⟩ := (hK.2 2 _ rfl).2
  have hcomp : comp = D.1 0 := Option.some.inj (k3.symm.trans hcls.1)
  subst hcomp
  obtain ⟨kC, hkC, -⟩ := hcls.2
  refine W.aast hx hb (hw.2 i _ he) (fun q h => by cases h) (fun h => by cases h) k1 k2 rfl hkC ⟨h0, by show _ < (arrV _ _ _).slots.size; rw [arrV_size]; exact hlt⟩ g1 (fun q h => by rw [g3] at h; cases h) (by rw [g2]; exact hkC) (by rw [g2]; exact va_assign hcls) rfl rfl hdg fun H1 e1 z1 o1 => ?_
  refine kk H1 _ (hw.set he z1 o1 ?_) (hS.put z1 o1 hA)
  show H1[b + i]? = some (vp_cell _ _)
  rw [e1, vp_cell_q, vp_cell_q, arrV_store]
  refine congrArg (fun z => some (arrV cN n z)) (funext fun q => ?_)
  by_cases hq : q = j.toNatClampNeg
  · subst hq
    simp [updV, va_up, va_rf]
  · simp [updV, va_up, hq]
end RW
