/-! ROWS OF OUR OWN: a row of rows of ints is made (multianewarray) -/
section MF
variable {E : CtlPost} {e : Env} {d : Bool} {acts : List Action} {s : State}
theorem mf_arr {c comp : ClassId} {k : Class} {ty : FieldType} {len : Nat} {init : Value} (hk : s.vm.classes[c]? = some k) (hkind : k.kind = .array comp ty) (h1 : ¬ len > e.platform.arrayLengthLimit) (h2 : ¬ len * componentBytes ty > e.platform.maxHeapBytes) (h3 : fits ty init = true) (h4 : init.isDefault = true) (h5 : s.heap.size < e.platform.maxCells) (h6 : s.slotsUsed + len ≤ e.platform.maxSlots) {Q : Addr → Pre} (hq : Q s.heap.size d acts (s.pushCell (arrV c len fun _ => init))) : wp (Jvm.newArray c len init) Q E e d acts s := by
  have hw : ∀ i v, (Array.replicate len init)[i]? = some v → s.fitsSlot c .none i v = true := fun i v hv => by
    rw [Array.getElem?_replicate] at hv
    by_cases hi : i < len
    · rw [if_pos hi] at hv
      cases hv
      simp [State.fitsSlot, State.slotType?, hk, hkind, h3]
    · rw [if_neg hi] at hv
      cases hv
  have ha : allocActs (Array.replicate len init) s.heap.size acts = acts := by
    have hall : ((Array.replicate len init).all (·.isDefault)) = true := by
      rw [Array.all_replicate]
      split <;> simp [h4]
    unfold allocActs
    rw [if_pos hall]
  simp only [Jvm.newArray, Jvm.arrayFits, wp_bind', W.ask, W.ite, h1, if_false, wp_pure', W.theClass, hk, hkind, h2, W.alloc, W.stop, Option.some.injEq, exists_eq_left', Array.size_replicate, ha]
  rw [if_neg (by omega)]
  exact ⟨h5, h6, hw, by rw [arrV_new]; exact hq⟩
end MF
/-- the outer row when i rows are made -/
def mf_o (cA : ClassId) (N a i : Nat) : Cell := arrV cA N fun j => if j < i then .ref (a + 1 + j) else .null
def mf_r (cI : ClassId) (K : Nat) : Cell := arrV cI K fun _ => .int 0
def mf (cA cI : ClassId) (N K : Nat) (T : State) : Nat → State
  | 0 => T.pushCell (mf_o cA N T.heap.size 0)
  | i + 1 => ((mf cA cI N K T i).pushCell (mf_r cI K)).setCell T.heap.size (mf_o cA N T.heap.size (i + 1))
theorem mf_o0 (cA : ClassId) (N a : Nat) : mf_o cA N a 0 = arrV cA N fun _ => .null := congrArg (arrV cA N) (funext fun j => if_neg (Nat.not_lt_zero j))
theorem mf_oS (cA : ClassId) (N a i : Nat) : (mf_o cA N a i).setSlot i (.ref (a + 1 + i)) = mf_o cA N a (i + 1) := by
  unfold mf_o
  rw [arrV_store]
  refine congrArg (arrV cA N) (funext fun j => ?_)
  unfold updV
  by_cases h : j = i
  · rw [h, if_pos rfl, if_pos (Nat.lt_succ_self i)]
  · rw [if_neg h]
    show (if j < i then Value.ref (a + 1 + j) else Value.null) = _
    by_cases h2 : j < i
    · rw [if_pos h2, if_pos (by omega)]
    · rw [if_neg h2, if_neg (by omega)]
theorem mf_facts (cA cI : ClassId) (N K : Nat) (T : State) : ∀ i, (mf cA cI N K T i).heap.size = T.heap.size + 1 + i ∧ (mf cA cI N K T i).heap[T.heap.size]? = some (mf_o cA N T.heap.size i) ∧ (mf cA cI N K T i).vm = T.vm ∧ (mf cA cI N K T i).slotsUsed = T.slotsUsed + N + i * K ∧ (∀ j, j < i → (mf cA cI N K T i).heap[T.heap.size + 1 + j]? = some (mf_r cI K)) ∧ ∀ q, q < T.heap.size → (mf cA cI N K T i).heap[q]? = T.heap[q]? := by
  intro i
  induction i with
  | zero =>
    refine ⟨by show (T.pushCell _).heap.size = _; simp, by show (T.pushCell _).heap[_]? = _; simp, rfl, ?_, fun j hj => by omega, fun q hq => State.heap_pushCell_of_lt _ _ hq⟩
    show T.slotsUsed + (mf_o cA N T.heap.size 0).slots.size = _
    unfold mf_o
    rw [arrV_size]
    omega
  | succ i ih =>
    obtain ⟨f1, f2, f3, f4, f5, f6⟩ := ih
    have z : ((mf cA cI N K T i).pushCell (mf_r cI K)).heap.size = T.heap.size + 1 + i + 1 := by simp [f1]
    have hs : (mf cA cI N K T (i + 1)).heap.size = T.heap.size + 1 + (i + 1) := by
      show (((mf cA cI N K T i).pushCell (mf_r cI K)).setCell _ _).heap.size = _
      rw [size_setCell, z]
      omega
    have z0 : T.heap.size < ((mf cA cI N K T i).pushCell (mf_r cI K)).heap.size := z ▸ (show T.heap.size < T.heap.size + 1 + i + 1 by omega)
    refine ⟨hs, heapAt_setCell_self _ z0, ?_, ?_, fun j hj => ?_, fun q hq => ?_⟩
    · show (mf cA cI N K T i).vm = _
      exact f3
    · show (mf cA cI N K T i).slotsUsed + (mf_r cI K).slots.size = _
      unfold mf_r
      rw [arrV_size, f4, Nat.succ_mul]
      omega
    · show (((mf cA cI N K T i).pushCell (mf_r cI K)).setCell _ _).heap[_]? = _
      have n1 : (T.heap.size : Nat) ≠ T.heap.size + 1 + j := Nat.ne_of_lt (show T.heap.size < T.heap.size + 1 + j by omega)
      rw [heapAt_setCell_ne _ n1]
      by_cases hji : j = i
      · rw [hji, ← f1]
        simp
      · have n2 : T.heap.size + 1 + j < (mf cA cI N K T i).heap.size := f1 ▸ (show T.heap.size + 1 + j < T.heap.size + 1 + i by omega)
        rw [State.heap_pushCell_of_lt _ _ n2]
        exact f5 j (by omega)
    · show (((mf cA cI N K T i).pushCell (mf_r cI K)).setCell _ _).heap[_]? = _
      have n2 : q < (mf cA cI N K T i).heap.size := f1 ▸ (show q < T.heap.size + 1 + i from Nat.lt_of_lt_of_le hq (by omega))
      rw [heapAt_setCell_ne _ (Nat.ne_of_gt hq), State.heap_pushCell_of_lt _ _ n2]
      exact f6 q hq
theorem mf_top (cA cI : ClassId) (N K : Nat) (T : State) (f : JFrame) : ∀ i, mf cA cI N K (T.setTop f) i = (mf cA cI N K T i).setTop f
  | 0 => rfl
  | i + 1 => by
    show ((mf cA cI N K (T.setTop f) i).pushCell (mf_r cI K)).setCell T.heap.size (mf_o cA N T.heap.size (i + 1)) = _
    rw [mf_top cA cI N K T f i]
    rfl
section MF2
variable {p : Program} {l : Launch} {e : Env} {R : Room} {s : State} {m : MethodId} {args : Array Value} {below : List Frame} {meth : Method} {c : Code} {T : State} {locs : List Loc} {cells slots : Nat}
theorem mf_stand (X : Stand p l e R s m args below meth c T locs cells slots) (cA cI : ClassId) (N K : Nat) : ∀ i, ∃ lo : List Loc, (∀ q ∈ lo, q ∈ locs ∨ q.base = T.heap.size) ∧ Stand p l e R s m args below meth c (mf cA cI N K T i) lo (cells + 1 + i) (slots + N + i * K) := by
  intro i
  induction i with
  | zero =>
    have h := X.pushed (mf_o cA N T.heap.size 0)
    rw [show (mf_o cA N T.heap.size 0).slots.size = N from arrV_size _ _ _] at h
    refine ⟨locs, fun q hq => Or.inl hq, ?_⟩
    rw [Nat.zero_mul]
    exact h
  | succ i ih =>
    obtain ⟨lo, h1, h2⟩ := ih
    obtain ⟨f1, f2, -⟩ := mf_facts cA cI N K T i
    have hcell : ((mf cA cI N K T i).pushCell (mf_r cI K)).heap[T.heap.size]? = some (mf_o cA N T.heap.size i) := by
      have n2 : T.heap.size < (mf cA cI N K T i).heap.size := f1 ▸ (show T.heap.size < T.heap.size + 1 + i by omega)
      rw [State.heap_pushCell_of_lt _ _ n2]; exact f2
    have h3 := (h2.pushed (mf_r cI K)).stored hcell i (.ref (T.heap.size + 1 + i))
    rw [mf_oS, show (mf_r cI K).slots.size = K from arrV_size _ _ _] at h3
    refine ⟨lo ++ [⟨T.heap.size, i⟩], fun q hq => ?_, ?_⟩
    · rcases List.mem_append.mp hq with h | h
      · exact h1 q h
      · rw [List.mem_singleton.mp h]; exact Or.inr rfl
    · rw [Nat.succ_mul, show slots + N + (i * K + K) = slots + N + i * K + K by omega]
      exact h3
end MF2
section MF3
variable {E : CtlPost} {e : Env} {d : Bool} {acts : List Action} {s : State}
theorem mf_row {cI cc : ClassId} {kc : Class} {k : Int32} (hk : s.vm.classes[cI]? = some kc) (hkind : kc.kind = .array cc .int) (h0 : ¬ k < 0) (h1 : ¬ k.toNatClampNeg > e.platform.arrayLengthLimit) (h2 : ¬ k.toNatClampNeg * componentBytes .int > e.platform.maxHeapBytes) (h5 : s.heap.size < e.platform.maxCells) (h6 : s.slotsUsed + k.toNatClampNeg ≤ e.platform.maxSlots) {Q : Addr → Pre} (hq : Q s.heap.size d acts (s.pushCell (mf_r cI k.toNatClampNeg))) : wp (multianewarray.make cI [k]) Q E e d acts s := by
  rw [multianewarray.make]
  simp only [wp_bind', W.ite, h0, if_false, wp_pure', W.theClass, hk, hkind, Option.some.injEq, exists_eq_left']
  exact mf_arr hk hkind h1 h2 rfl rfl h5 h6 hq
theorem mf_make {cA cI cc : ClassId} {kA kc : Class} {n k : Int32} (hk : s.vm.classes[cA]? = some kA) (hkind : kA.kind = .array cI (.array .int)) (hkc : s.vm.classes[cI]? = some kc) (hkindc : kc.kind = .array cc .int) (hn : ¬ n < 0) (h0 : ¬ k < 0) (h1 : ¬ n.toNatClampNeg > e.platform.arrayLengthLimit) (h2 : ¬ n.toNatClampNeg * componentBytes (.array .int) > e.platform.maxHeapBytes) (h3 : ¬ k.toNatClampNeg > e.platform.arrayLengthLimit) (h4 : ¬ k.toNatClampNeg * componentBytes .int > e.platform.maxHeapBytes) (h5 : s.heap.size + 1 + n.toNatClampNeg ≤ e.platform.maxCells) (h6 : s.slotsUsed + n.toNatClampNeg + n.toNatClampNeg * k.toNatClampNeg ≤ e.platform.maxSlots) {Q : Addr → Pre} (hq : ∀ d' acts', Q s.heap.size d' acts' (mf cA cI n.toNatClampNeg k.toNatClampNeg s n.toNatClampNeg)) : wp (multianewarray.make cA [n, k]) Q E e d acts s := by
  generalize hN : n.toNatClampNeg = N at *
  have hfind : ([k].find? (· < 0)) = none := by simp [h0]
  rw [multianewarray.make]
  simp only [wp_bind', W.ite, hn, if_false, wp_pure', W.theClass, hk, hkind, Option.some.injEq, exists_eq_left', hN]
  refine mf_arr hk hkind h1 h2 rfl rfl (by omega) (by omega) ?_
  simp only [hfind]
  rw [ite_self, wp_bind', Std.Legacy.Range.forIn_eq_forIn_range', show ([:N] : Std.Legacy.Range).size = N by simp [Std.Legacy.Range.size]]
  rw [← mf_o0 cA N s.heap.size]
  refine wp_forIn_inv (fun rest s' => ∃ i c, i + c = N ∧ rest = List.range' i c ∧ s' = mf cA cI N k.toNatClampNeg s i) _ _ ⟨0, N, Nat.zero_add N, rfl, rfl⟩ ?_ ?_
  · rintro x rest s' d' acts' Q' ⟨i, c, hi, hl, rfl⟩ hnext
    rcases c with _ | c
    · cases hl
    · rw [List.range'_succ] at hl
      obtain ⟨rfl, rfl⟩ := List.cons.inj hl
      obtain ⟨f1, f2, f3, f4, -⟩ := mf_facts cA cI N k.toNatClampNeg s x
      have hmul : x * k.toNatClampNeg + k.toNatClampNeg ≤ N * k.toNatClampNeg := by
        have := Nat.mul_le_mul_right k.toNatClampNeg (show x + 1 ≤ N by omega)
        rw [Nat.succ_mul] at this
        exact this
      simp only [wp_bind']
      refine mf_row (by rw [f3]; exact hkc) hkindc h0 h3 h4 (by rw [f1]; omega) (by rw [f4]; omega) ?_
      simp only [wp_bind', W.writeLoc, wp_pure']
      have n2 : s.heap.size < (mf cA cI N k.toNatClampNeg s x).heap.size := f1 ▸ (show s.heap.size < s.heap.size + 1 + x by omega)
      refine ⟨mf_o cA N s.heap.size x, by rw [State.heap_pushCell_of_lt _ _ n2]; exact f2, (fun z => by cases z), ?_, ?_, hnext _ _ _ ⟨x + 1, c, by omega, rfl, ?_⟩⟩
      · rw [show (mf_o cA N s.heap.size x).slots.size = N from arrV_size _ _ _]; omega
      · show ((mf cA cI N k.toNatClampNeg s x).pushCell (mf_r cI k.toNatClampNeg)).fitsSlot cA .none x _ = true
        simp [State.fitsSlot, State.slotType?, f3, hk, hkind, fits]
      · rw [f1, mf_oS]
        rfl
  · rintro s' d' acts' ⟨i, c, hi, hl, rfl⟩
    rcases c with _ | c
    · rw [show i = N by omega]
      simp only [wp_pure']
      exact hq _ _
    · rw [List.range'_succ] at hl
      cases hl
end MF3
