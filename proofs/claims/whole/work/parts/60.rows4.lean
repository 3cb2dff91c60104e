/-! ROWS OF OUR OWN: multianewarray over the picture; what a constructor finds -/
def mi_aoa (U : State) : Prop := (Cond.arrayOver (.array .int)).before #[] U = true
theorem mi_aoa.use {A : Array Value} {U : State} (h : mi_aoa U) : (Cond.arrayOver (.array .int)).before A U = true := h
theorem mi_aoa.of {A : Array Value} {U : State} (h : (Cond.arrayOver (.array .int)).before A U = true) : mi_aoa U := h
theorem mi_aoa.moved {u U : State} (hvm : u.vm.Alike U.vm) (h : mi_aoa u) : mi_aoa U := by
  obtain ⟨comp, c, k, h1, h2, h3, h4, h5⟩ := arrayOverA_spec h
  obtain ⟨k', hk', he⟩ := hvm.2.2 _ _ h3
  have hi := (hvm.findIdx?_eq (fun (x : Class) => match x.kind with | .array component _ => component == comp | _ => false) (fun _ => rfl)).trans h2
  have hkind : k'.kind = .array comp (.array .int) := by rw [he]; exact h4
  have f1 : U.vm.findClass (FieldType.array .int).toString = some comp := by rw [hvm.findClass]; exact h1
  have f2 : U.vm.findClass ("[" ++ (FieldType.array .int).toString) = some c := by rw [hvm.findClass]; exact h5
  unfold mi_aoa Cond.before Cond.holds
  simp only [Cond.value]
  rw [f1, Option.bind_some]
  refine (congrArg (fun o : Option Nat => (o.bind (fun c => (U.vm.classes[c]?).map fun (k : Class) => match k.kind with | .array _ ty => decide (ty = FieldType.array .int) && decide (U.vm.findClass ("[" ++ (FieldType.array .int).toString) = some c) | _ => false) == some true)) hi).trans ?_
  simp [hk', hkind, f2]
section RM
variable {p : Program} {l : Launch} {e : Env} {R : Room} {s : State} {m : MethodId} {args : Array Value} {below : List Frame} {meth : Method} {c : Code} {H : Heap} {locs : List Loc} {cells slots : Nat} {Q : State → Prop}
variable {cc : ByteArray} {pc : Nat} {ls : Array Slot} {rest : List Value} {D : va_G} {A : Nat → Prop} {cI cII cN : ClassId} {H0 : Heap} {b : Nat} {es : List va_E} {own : String} {index : Nat}
def mi_out (cII : ClassId) (N a : Nat) : va_E := .inl (cII, N, .inr (.inr (.inr (.inr fun i => if i < N then some (a + 1 + i) else none))))
theorem mf_o_vp (cII : ClassId) (N a : Nat) : mf_o cII N a N = vp_cell cII (N, .inr (.inr (.inr (.inr fun i => if i < N then some (a + 1 + i) else none)))) := by
  rw [vp_cell_q]
  unfold mf_o
  refine congrArg (arrV cII N) (funext fun j => ?_)
  by_cases h : j < N
  · rw [if_pos h, if_pos h]; rfl
  · rw [if_neg h, if_neg h]; rfl
theorem hw_mna (hx : p.tables.exec = Jvm.exec) (hb : c.code = cc) (hown : s.vm.findClass own = some m.cls) (hcl : (Cond.classLink own index ("[" ++ (FieldType.array .int).toString)).before args s = true) (hover : mi_aoa s) (harr : (Cond.arrayClass .int).before args s = true) (hK : va_K D vwCl (mi_tys cI cII cN) s) (hw : Hw D b es H) (hS : va_S A H0 H locs) (hA : ∀ q, b ≤ q → A q) {n k : Int32} {N K : Nat} (hn : ¬ n < 0) (hk : ¬ k < 0) (hN : n.toNatClampNeg = N) (hKK : k.toNatClampNeg = K) (hb1 : N * 4 ≤ 536870912) (hb2 : K * 4 ≤ 536870912) (hcells : cells + (1 + N) ≤ R.cells) (hslots : slots + (N + N * K) ≤ R.slots) (hdg : decode cc pc = .ok (.multianewarray index 2, 4))
    (kk : ∀ (H1 : Heap) (locs1 : List Loc), Hw D b (es ++ (mi_out cII N (b + es.length) :: List.replicate N (.inl (cI, K, .inl fun _ => 0)))) H1 → va_S A H0 H1 locs1 → W p l e R s m args below meth c H1 locs1 (cells + 1 + N) (slots + N + N * K) Q (F0 m (pc + 4) ls (.ref (b + es.length) :: rest))) : W p l e R s m args below meth c H locs cells slots Q (F0 m pc ls (.int k :: .int n :: rest)) := by
  intro T hT X
  subst hT
  subst hb
  subst hN
  subst hKK
  have hpl : e.platform.magicAccessors = ({} : Platform).magicAccessors := by rw [X.admits.platform]
  obtain ⟨comp, cA, kA, hcomp, -, hkA, hkindA, hnameA⟩ := arrayOverA_spec (mi_aoa.use (A := args) hover)
  obtain ⟨comp', kC, cc, hcomp', hkC, hkindC⟩ := Cond.arrayClass_spec harr
  have ecomp : comp' = comp := Option.some.inj (hcomp'.symm.trans hcomp)
  subst ecomp
  have eI : cI = comp' := Option.some.inj ((hK.2 0 _ rfl).2.symm.trans hcomp)
  subst eI
  have eII : cII = cA := Option.some.inj ((hK.2 1 _ rfl).2.symm.trans hnameA)
  subst eII
  obtain ⟨c0, hfc0, hcl2⟩ := Cond.classLink_spec hown hcl e.platform hpl
  cases hnameA.symm.trans hfc0
  obtain ⟨hg₁, hwarm₁, hready₁⟩ := State.classEntry (e := e) X.warmed hcl2
  have hmcls : (F0 m pc ls (.int k :: .int n :: rest)).method = m := rfl
  generalize T.vm.noted m.cls index (.cls cII) = vm₁ at hg₁ hwarm₁ hready₁
  have hal : s.vm.Alike vm₁ := hwarm₁.alike
  obtain ⟨kA₁, hkA₁, heA⟩ := hal.2.2 _ _ hkA
  obtain ⟨kC₁, hkC₁, heC⟩ := hal.2.2 _ _ hkC
  have hkindA₁ : kA₁.kind = .array cI (.array .int) := by rw [heA]; exact hkindA
  have hkindC₁ : kC₁.kind = .array cc .int := by rw [heC]; exact hkindC
  have X₁ := X.noted hwarm₁
  obtain ⟨hr1, hr2⟩ := X.roomAbove hcells hslots
  obtain ⟨lo, hlo, XF⟩ := mf_stand X₁ cII cI n.toNatClampNeg k.toNatClampNeg n.toNatClampNeg
  obtain ⟨f1, f2, f3, f4, f5, f6⟩ := mf_facts cII cI n.toNatClampNeg k.toNatClampNeg (T.setVm vm₁) n.toNatClampNeg
  have hsz : (T.setVm vm₁).heap.size = T.heap.size := rfl
  have hTb : T.heap.size = b + es.length := hw.1
  obtain ⟨t', a1, b1⟩ := kk (mf cII cI n.toNatClampNeg k.toNatClampNeg (T.setVm vm₁) n.toNatClampNeg).heap lo (hw.more (by rw [f1, hsz, List.length_cons, List.length_replicate]; omega) (fun q hq => f6 q hq) (fun j y hy => by
      rcases j with _ | j
      · cases hy
        show (mf cII cI n.toNatClampNeg k.toNatClampNeg (T.setVm vm₁) n.toNatClampNeg).heap[T.heap.size]? = some (vp_cell _ _)
        rw [← hTb, ← mf_o_vp]
        exact f2
      · have hj : j < n.toNatClampNeg := by
          have := (List.getElem?_eq_some_iff.mp hy).1
          simpa using this
        have hy2 : (List.replicate n.toNatClampNeg (.inl (cI, k.toNatClampNeg, .inl fun _ => 0) : va_E))[j]? = some y := hy
        rw [List.getElem?_replicate, if_pos hj] at hy2
        cases hy2
        show (mf cII cI n.toNatClampNeg k.toNatClampNeg (T.setVm vm₁) n.toNatClampNeg).heap[T.heap.size + (j + 1)]? = some (vp_cell _ _)
        rw [show T.heap.size + (j + 1) = T.heap.size + 1 + j by omega]
        exact f5 j hj)) ⟨Nat.le_trans hS.1 (by rw [f1, hsz]; exact Nat.le_trans (Nat.le_add_right _ 1) (Nat.le_add_right _ _)), fun q h1 h2 => (f6 q (Nat.lt_of_lt_of_le h1 hS.1)).trans (hS.2.1 q h1 h2), fun q hq => by
      rcases hlo q hq with h | h
      · exact hS.2.2 q h
      · rw [h]
        exact hA _ (by rw [hsz, hTb]; exact Nat.le_add_right _ _)⟩ _ rfl XF
  refine ⟨t', ?_, b1⟩
  have hl1 : ¬ n.toNatClampNeg > e.platform.arrayLengthLimit := by rw [Launch.admits_arrayLengthLimit X.admits]; omega
  have hh1 : ¬ n.toNatClampNeg * componentBytes (.array .int) > e.platform.maxHeapBytes := by
    rw [Launch.admits_maxHeapBytes X.admits]; show ¬ n.toNatClampNeg * 4 > 536870912; omega
  have hl2 : ¬ k.toNatClampNeg > e.platform.arrayLengthLimit := by rw [Launch.admits_arrayLengthLimit X.admits]; omega
  have hh2 : ¬ k.toNatClampNeg * componentBytes .int > e.platform.maxHeapBytes := by
    rw [Launch.admits_maxHeapBytes X.admits]; show ¬ k.toNatClampNeg * 4 > 536870912; omega
  jvm_step X.here [hx, hdg]
  simp only [multianewarray.sem, wp_bind', W.resolveClassAt_links (State.method?_setTop (F0 m pc ls (.int k :: .int n :: rest)) X.here.top) hg₁]
  rw [W.popN, if_neg (by decide)]
  refine ⟨F0 m pc ls (.int k :: .int n :: rest), State.topJava?_setTop' (s := T.setVm vm₁) _ X.here.top, [.int n, .int k], rest, rfl, rfl, ?_⟩
  simp only [List.mapM_cons, List.mapM_nil, wp_bind', wp_pure']
  refine mf_make (kA := kA₁) (kc := kC₁) (cI := cI) (cc := cc) hkA₁ hkindA₁ hkC₁ hkindC₁ hn hk hl1 hh1 hl2 hh2 (by show T.heap.size + 1 + _ ≤ _; omega) (by show T.slotsUsed + _ + _ ≤ _; omega) (fun d' acts' => ?_)
  have eS : ((T.setTop (F0 m pc ls (.int k :: .int n :: rest))).setVm vm₁).setTop { F0 m pc ls (.int k :: .int n :: rest) with stack := rest } = (T.setVm vm₁).setTop { F0 m pc ls (.int k :: .int n :: rest) with stack := rest } := by
    show ((T.setVm vm₁).setTop (F0 m pc ls (.int k :: .int n :: rest))).setTop _ = _
    rw [State.setTop_setTop]
  rw [eS, mf_top]
  simp only [wp_bind', W.mark, W.pushRef, State.topJava?_setTop' _ XF.here.top, Option.some.injEq, exists_eq_left', State.setTop_setTop, State.heap_setTop]
  intro acts
  simp [jvm, XF.here.top]
  rw [← hTb] at a1
  exact a1
end RM
