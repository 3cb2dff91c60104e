/-! the tables' words that the small machine's steps ask for, found once -/
def mi_gt : List Cond := lw_tbl.filter goodWord
def mi_cn (c : Nat) : String := mi_nth ["SlipStore$Net", "SlipStore$Script", "SlipStore", "SlipStoreModel", "SlipStoreLaw"] c ""
def mi_TX (c : Nat) : u_T := match c with
  | 0 => TX0
  | 1 => TX1
  | 2 => TX2
  | _ => TX3
def mi_ty (c : Nat) : Nat → FieldType := match c with
  | 0 => tyX0
  | 1 => tyX1
  | 2 => tyX2
  | _ => tyX3
def mi_nf (c : Nat) : Nat := match c with
  | 0 => 8
  | 1 => 5
  | 2 => 8
  | _ => 19
def mi_wd (w : Cond) : Bool := decide (w ∈ lw_tbl) && goodWord w
theorem mi_wd_in {w : Cond} (h : mi_wd w = true) : w ∈ mi_gt := by
  unfold mi_wd at h
  simp only [Bool.and_eq_true, decide_eq_true_eq] at h
  exact List.mem_filter.mpr ⟨h.1, h.2⟩
theorem mi_wd_all {ws : List Cond} (h : ws.all mi_wd = true) : ∀ w ∈ ws, w ∈ mi_gt := fun w hw => mi_wd_in (List.all_eq_true.mp h w hw)
theorem mi_w_X0 : ∀ w ∈ u_ws RX0 TX0 8, w ∈ mi_gt := mi_wd_all (by decide +kernel)
theorem mi_w_X1 : ∀ w ∈ u_ws RX1 TX1 5, w ∈ mi_gt := mi_wd_all (by decide +kernel)
theorem mi_w_X2 : ∀ w ∈ u_ws RX2 TX2 8, w ∈ mi_gt := mi_wd_all (by decide +kernel)
theorem mi_w_X3 : ∀ w ∈ u_ws RX3 TX3 19, w ∈ mi_gt := mi_wd_all (by decide +kernel)
def mi_flw (q : Nat × Nat × Nat × Nat) : Cond := .fieldLink (mi_cn q.1) q.2.1 (mi_TX q.2.2.1 q.2.2.2).1 (mi_TX q.2.2.1 q.2.2.2).2.1 (mi_TX q.2.2.1 q.2.2.2).2.2.1
theorem mi_w_fl : ∀ w ∈ mi_fls.map mi_flw, w ∈ mi_gt := mi_wd_all (by decide +kernel)
theorem mi_w_fl2 : mi_fls.all (fun q => Nat.blt q.2.2.1 4 && Nat.blt q.2.2.2 (mi_nf q.2.2.1)) = true := by decide +kernel
def mi_mlw (q : Nat × Nat × Nat × Nat) : List Cond := match q.2.2.1 with
  | 0 => [.methodLink (mi_cn q.1) q.2.1 (mi_nm q.2.2.2), .instanceMethod (mi_nm q.2.2.2), .selects (mi_nm q.2.2.2).cls (mi_nm q.2.2.2) (mi_nm q.2.2.2), .initialized (mi_nm q.2.2.2).cls]
  | 1 => [.methodLink (mi_cn q.1) q.2.1 (mi_nm q.2.2.2), .static (mi_nm q.2.2.2), .initialized (mi_cn q.1), .initialized (mi_nm q.2.2.2).cls]
  | 2 => [.static (mi_nm q.2.2.2), .initialized (mi_nm q.2.2.2).cls]
  | 3 => [.methodLink (mi_cn q.1) q.2.1 Lib.Math.min.name, .static Lib.Math.min.name, .initialized "java/lang/Math", .code Lib.Math.min.name Lib.Math.min.code 2 (some .int)]
  | 4 => [.methodLink (mi_cn q.1) q.2.1 Lib.Math.max.name, .static Lib.Math.max.name, .initialized "java/lang/Math", .code Lib.Math.max.name Lib.Math.max.code 2 (some .int)]
  | 5 => [.methodLink (mi_cn q.1) q.2.1 Lib.Math.abs.name, .static Lib.Math.abs.name, .initialized "java/lang/Math", .code Lib.Math.abs.name Lib.Math.abs.code 1 (some .int)]
  | _ => [.methodLink (mi_cn q.1) q.2.1 arraycopyName, .native arraycopyName, .static arraycopyName, .initialized "java/lang/System"]
def mi_wp : List Cond → List Nat → Bool
  | [], _ => true
  | w :: ws, i :: is => decide (lw_tbl[i]? = some w) && (goodWord w && mi_wp ws is)
  | _ :: _, [] => false
theorem mi_wp_in : ∀ (ws : List Cond) (is : List Nat), mi_wp ws is = true → ∀ w ∈ ws, w ∈ mi_gt
  | [], _, _, w, hw => by cases hw
  | v :: ws, i :: is, h, w, hw => by
    simp only [mi_wp, Bool.and_eq_true, decide_eq_true_eq] at h
    rcases List.mem_cons.mp hw with e | e
    · rw [e]; exact List.mem_filter.mpr ⟨List.mem_of_getElem? h.1, h.2.1⟩
    · exact mi_wp_in ws is h.2.2 w e
  | _ :: _, [], h, _, _ => by cases h
theorem mi_w_ml1 : mi_wp ((mi_mls.take 60).flatMap mi_mlw) (mi_mlp.take 60).flatten = true := by decide +kernel
theorem mi_w_ml2 : mi_wp (((mi_mls.drop 60).take 50).flatMap mi_mlw) ((mi_mlp.drop 60).take 50).flatten = true := by decide +kernel
theorem mi_w_ml3 : mi_wp ((mi_mls.drop 110).flatMap mi_mlw) (mi_mlp.drop 110).flatten = true := by decide +kernel
theorem mi_w_ml : ∀ q ∈ mi_mls, ∀ w ∈ mi_mlw q, w ∈ mi_gt := by
  intro q hq w hw
  rw [← List.take_append_drop 60 mi_mls] at hq
  rcases List.mem_append.mp hq with h | h
  · exact mi_wp_in _ _ mi_w_ml1 w (List.mem_flatMap.mpr ⟨q, h, hw⟩)
  · rw [← List.take_append_drop 50 (mi_mls.drop 60)] at h
    rcases List.mem_append.mp h with h | h
    · exact mi_wp_in _ _ mi_w_ml2 w (List.mem_flatMap.mpr ⟨q, h, hw⟩)
    · rw [List.drop_drop] at h
      exact mi_wp_in _ _ mi_w_ml3 w (List.mem_flatMap.mpr ⟨q, h, hw⟩)
def mi_cw (y : Nat) : Cond := .code (mi_nm y) (mi_cd y) (mi_mx y) (mi_rt y)
def mi_wc (y : Nat) : Bool := match lw_tbl[mi_nth mi_cdp y 0]? with
  | some (.code n _ x r) => decide (n = mi_nm y) && (decide (x = mi_mx y) && decide (r = mi_rt y))
  | _ => false
theorem mi_w_cd1 : (List.range 143).all mi_wc = true := by decide +kernel
theorem mi_w_cd {y : Nat} (hy : y < 143) : mi_cw y ∈ mi_gt := by
  have h := List.all_eq_true.mp mi_w_cd1 y (List.mem_range.mpr hy)
  have hb : Nat.beq y 143 = false := by
    cases hq : Nat.beq y 143 with
    | false => rfl
    | true => have := Nat.eq_of_beq_eq_true hq; omega
  have hcd : mi_cd y = mi_cof lw_tbl[mi_nth mi_cdp y 0]? := by unfold mi_cd; rw [hb]
  unfold mi_wc at h
  split at h
  · next n b x r he =>
    simp only [Bool.and_eq_true, decide_eq_true_eq] at h
    obtain ⟨h1, h2, h3⟩ := h
    have : mi_cw y = .code n b x r := by unfold mi_cw; rw [hcd, he, ← h1, ← h2, ← h3]; rfl
    rw [this]
    exact List.mem_filter.mpr ⟨List.mem_of_getElem? he, rfl⟩
  · cases h
theorem mi_w_lc : ∀ w ∈ mi_lcs.map (fun q => Cond.constantLong (mi_cn q.1) q.2.1 q.2.2), w ∈ mi_gt := mi_wd_all (by decide +kernel)
theorem mi_gt_good : ∀ w ∈ mi_gt, w ∈ mi_gt ∧ ((w.onTables && w.keeps) = true ∨ ∃ ty, w = .arrayClass ty) := fun w h => ⟨h, good_of_word (List.mem_filter.mp h).2⟩
