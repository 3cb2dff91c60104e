/-! the code tables are what the machine decodes; lengths and jumps are as the small machine has them -/
def mi_ln : Instr → Nat
  | .bipush _ => 2
  | .sipush _ => 3
  | .ldc2_w _ => 3
  | .iload _ => 2
  | .aload _ => 2
  | .istore _ => 2
  | .astore _ => 2
  | .iinc _ _ => 3
  | .ifCond _ _ => 3
  | .if_icmp _ _ => 3
  | .goto _ => 3
  | .getfield _ => 3
  | .putfield _ => 3
  | .getstatic _ => 3
  | .invokevirtual _ => 3
  | .invokestatic _ => 3
  | _ => 1
def mi_lnok (pc : Nat) (i : Instr) (n : Nat) : Bool := match i with
  | .tableswitch d lo hi offs => decide (0 ≤ (pc : Int) + d) && (offs.toList.all (fun o => decide (0 ≤ (pc : Int) + o)) && (decide (hi - lo + 1 = offs.size) && (decide (0 ≤ lo) && decide (hi < 1000))))
  | .ifCond _ o => decide (0 ≤ (pc : Int) + o) && Nat.beq n 3
  | .if_icmp _ o => decide (0 ≤ (pc : Int) + o) && Nat.beq n 3
  | .goto o => decide (0 ≤ (pc : Int) + o) && Nat.beq n 3
  | .new _ => true
  | .invokespecial _ => true
  | i => Nat.beq n (mi_ln i)
def mi_chk (y : Nat) : Bool := (mi_tc y).all (fun q => decide (decode (mi_cd y) q.1 = .ok (q.2.1, q.2.2)) && mi_lnok q.1 q.2.1 q.2.2)
theorem mi_ck_0 : (List.range 15).all (fun k => mi_chk (0 + k)) = true := by decide +kernel
theorem mi_ck_15 : (List.range 9).all (fun k => mi_chk (15 + k)) = true := by decide +kernel
theorem mi_ck_24 : (List.range 13).all (fun k => mi_chk (24 + k)) = true := by decide +kernel
theorem mi_ck_37 : (List.range 25).all (fun k => mi_chk (37 + k)) = true := by decide +kernel
theorem mi_ck_62 : (List.range 23).all (fun k => mi_chk (62 + k)) = true := by decide +kernel
theorem mi_ck_85 : (List.range 12).all (fun k => mi_chk (85 + k)) = true := by decide +kernel
theorem mi_ck_97 : (List.range 19).all (fun k => mi_chk (97 + k)) = true := by decide +kernel
theorem mi_ck_116 : (List.range 19).all (fun k => mi_chk (116 + k)) = true := by decide +kernel
theorem mi_ck_135 : (List.range 8).all (fun k => mi_chk (135 + k)) = true := by decide +kernel
theorem mi_cl_0 : (((mi_tc 143).drop 0).take 120).all (fun q => decide (decode (mi_cd 143) q.1 = .ok (q.2.1, q.2.2)) && mi_lnok q.1 q.2.1 q.2.2) = true := by decide +kernel
theorem mi_cl_120 : (((mi_tc 143).drop 120).take 120).all (fun q => decide (decode (mi_cd 143) q.1 = .ok (q.2.1, q.2.2)) && mi_lnok q.1 q.2.1 q.2.2) = true := by decide +kernel
theorem mi_cl_240 : (((mi_tc 143).drop 240).take 120).all (fun q => decide (decode (mi_cd 143) q.1 = .ok (q.2.1, q.2.2)) && mi_lnok q.1 q.2.1 q.2.2) = true := by decide +kernel
theorem mi_cl_360 : (((mi_tc 143).drop 360).take 108).all (fun q => decide (decode (mi_cd 143) q.1 = .ok (q.2.1, q.2.2)) && mi_lnok q.1 q.2.1 q.2.2) = true := by decide +kernel
theorem mi_ck_law : mi_chk 143 = true := by
  refine List.all_eq_true.mpr fun q hq => ?_
  have e : mi_tc 143 = ((mi_tc 143).drop 0).take 120 ++ ((mi_tc 143).drop 120).take 120 ++ ((mi_tc 143).drop 240).take 120 ++ ((mi_tc 143).drop 360).take 108 := by decide +kernel
  rw [e] at hq
  simp only [List.mem_append] at hq
  rcases hq with (((h0 | h1) | h2) | h3)
  · exact List.all_eq_true.mp mi_cl_0 q h0
  · exact List.all_eq_true.mp mi_cl_120 q h1
  · exact List.all_eq_true.mp mi_cl_240 q h2
  · exact List.all_eq_true.mp mi_cl_360 q h3
theorem mi_ck {y : Nat} (hy : y < 144) : mi_chk y = true := by
  rcases Nat.lt_or_ge y 15 with h | h
  · have := List.all_eq_true.mp mi_ck_0 (y - 0) (List.mem_range.mpr (by omega)); rwa [show 0 + (y - 0) = y by omega] at this
  have h14 := h; clear h
  rcases Nat.lt_or_ge y 24 with h | h
  · have := List.all_eq_true.mp mi_ck_15 (y - 15) (List.mem_range.mpr (by omega)); rwa [show 15 + (y - 15) = y by omega] at this
  have h23 := h; clear h
  rcases Nat.lt_or_ge y 37 with h | h
  · have := List.all_eq_true.mp mi_ck_24 (y - 24) (List.mem_range.mpr (by omega)); rwa [show 24 + (y - 24) = y by omega] at this
  have h36 := h; clear h
  rcases Nat.lt_or_ge y 62 with h | h
  · have := List.all_eq_true.mp mi_ck_37 (y - 37) (List.mem_range.mpr (by omega)); rwa [show 37 + (y - 37) = y by omega] at this
  have h61 := h; clear h
  rcases Nat.lt_or_ge y 85 with h | h
  · have := List.all_eq_true.mp mi_ck_62 (y - 62) (List.mem_range.mpr (by omega)); rwa [show 62 + (y - 62) = y by omega] at this
  have h84 := h; clear h
  rcases Nat.lt_or_ge y 97 with h | h
  · have := List.all_eq_true.mp mi_ck_85 (y - 85) (List.mem_range.mpr (by omega)); rwa [show 85 + (y - 85) = y by omega] at this
  have h96 := h; clear h
  rcases Nat.lt_or_ge y 116 with h | h
  · have := List.all_eq_true.mp mi_ck_97 (y - 97) (List.mem_range.mpr (by omega)); rwa [show 97 + (y - 97) = y by omega] at this
  have h115 := h; clear h
  rcases Nat.lt_or_ge y 135 with h | h
  · have := List.all_eq_true.mp mi_ck_116 (y - 116) (List.mem_range.mpr (by omega)); rwa [show 116 + (y - 116) = y by omega] at this
  have h134 := h; clear h
  rcases Nat.lt_or_ge y 143 with h | h
  · have := List.all_eq_true.mp mi_ck_135 (y - 135) (List.mem_range.mpr (by omega)); rwa [show 135 + (y - 135) = y by omega] at this
  have h142 := h; clear h
  rw [show y = 143 by omega]; exact mi_ck_law
theorem mi_look_in : ∀ (l : List (Nat × Instr × Nat)) (pc : Nat) (i : Instr), mi_look l pc = some i → ∃ n, (pc, i, n) ∈ l
  | [], _, _, h => by cases h
  | (a, j, n) :: l, pc, i, h => by
    rw [mi_look] at h
    cases hb : Nat.beq a pc with
    | true =>
      rw [hb] at h
      cases h
      rw [Nat.eq_of_beq_eq_true hb]
      exact ⟨n, List.mem_cons_self⟩
    | false =>
      rw [hb] at h
      obtain ⟨k, hk⟩ := mi_look_in l pc i h
      exact ⟨k, List.mem_cons_of_mem _ hk⟩
/-- an instruction of the table is what the machine decodes there -/
theorem mi_dec {y pc : Nat} {i : Instr} (hy : y < 144) (h : mi_at y pc = some i) : ∃ n, decode (mi_cd y) pc = .ok (i, n) ∧ mi_lnok pc i n = true := by
  obtain ⟨n, hn⟩ := mi_look_in _ _ _ h
  have := List.all_eq_true.mp (mi_ck hy) _ hn
  simp only [Bool.and_eq_true, decide_eq_true_eq] at this
  exact ⟨n, this⟩
