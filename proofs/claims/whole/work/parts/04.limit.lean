theorem mi_exN_S (n y pc : Nat) (ls : mLs) (st : List mV) (M : mM) : mi_exN (n + 1) y pc ls st M = (match mi_step y pc ls st M with
    | none => none
    | some (.inl (pc', ls', st', M')) => mi_exN n y pc' ls' st' M'
    | some (.inr (.inl v)) => some (v, M)
    | some (.inr (.inr (z, as, pc', ls', r))) => (mi_exN n z 0 (mi_ent 0 as) [] M).bind fun q => (mi_push z q.1 r).bind fun st' => mi_exN n y pc' ls' st' q.2) := rfl
theorem mi_mono : ∀ (n y pc : Nat) (ls : mLs) (st : List mV) (M : mM) (q : mV × mM), mi_exN n y pc ls st M = some q → mi_exN (n + 1) y pc ls st M = some q := by
  intro n
  induction n with
  | zero => intro y pc ls st M q h; cases h
  | succ n ih =>
    intro y pc ls st M q h
    rw [mi_exN_S] at h ⊢
    rcases hs : mi_step y pc ls st M with _ | ⟨⟨pc', ls', st', M'⟩ | v | ⟨z, as, pc', ls', r⟩⟩ <;> rw [hs] at h
    · exact h
    · exact ih _ _ _ _ _ _ h
    · exact h
    · simp only [Option.bind_eq_some_iff] at h ⊢
      obtain ⟨a, h1, b, h2, h3⟩ := h
      exact ⟨a, ih _ _ _ _ _ _ h1, b, h2, ih _ _ _ _ _ _ h3⟩
theorem mi_more {n m y pc : Nat} {ls : mLs} {st : List mV} {M : mM} {q : mV × mM} (h : mi_exN n y pc ls st M = some q) (hm : n ≤ m) : mi_exN m y pc ls st M = some q := by
  obtain ⟨k, rfl⟩ := Nat.exists_eq_add_of_le hm
  clear hm
  induction k with
  | zero => exact h
  | succ k ih => exact mi_mono _ _ _ _ _ _ _ ih
/-- it ends with q -/
def mi_Ev (y pc : Nat) (ls : mLs) (st : List mV) (M : mM) (q : mV × mM) : Prop := ∃ n, mi_exN n y pc ls st M = some q
theorem mi_Ev.fn {y pc : Nat} {ls : mLs} {st : List mV} {M : mM} {q q' : mV × mM} (h : mi_Ev y pc ls st M q) (h' : mi_Ev y pc ls st M q') : q = q' := by
  obtain ⟨n, h⟩ := h
  obtain ⟨n', h'⟩ := h'
  have a := mi_more h (Nat.le_max_left n n')
  have b := mi_more h' (Nat.le_max_right n n')
  exact Option.some.inj (a.symm.trans b)
/-- the answer and the memory, if it ends -/
noncomputable def mi_run (y pc : Nat) (ls : mLs) (st : List mV) (M : mM) : Option (mV × mM) := Classical.epsilon fun o => ∀ q, o = some q ↔ mi_Ev y pc ls st M q
theorem mi_run_iff (y pc : Nat) (ls : mLs) (st : List mV) (M : mM) (q : mV × mM) : mi_run y pc ls st M = some q ↔ mi_Ev y pc ls st M q := by
  have h : ∃ o : Option (mV × mM), ∀ q, o = some q ↔ mi_Ev y pc ls st M q := by
    rcases Classical.em (∃ q, mi_Ev y pc ls st M q) with ⟨q, hq⟩ | h
    · exact ⟨some q, fun q' => ⟨fun e => by cases e; exact hq, fun h' => by rw [hq.fn h']⟩⟩
    · exact ⟨none, fun q' => ⟨fun e => (by cases e), fun h' => absurd ⟨q', h'⟩ h⟩⟩
  exact Classical.epsilon_spec h q
theorem mi_opt {α : Type} {a b : Option α} (h : ∀ q, a = some q ↔ b = some q) : a = b := by
  cases a with
  | none => cases b with
    | none => rfl
    | some y => exact absurd ((h y).mpr rfl) (by simp)
  | some x => exact ((h x).mp rfl).symm
theorem mi_run_none {y pc : Nat} {ls : mLs} {st : List mV} {M : mM} (h : mi_step y pc ls st M = none) : mi_run y pc ls st M = none := by
  refine mi_opt fun q => ⟨fun e => ?_, fun e => by cases e⟩
  obtain ⟨n, hn⟩ := (mi_run_iff ..).mp e
  cases n with
  | zero => cases hn
  | succ n => rw [mi_exN_S, h] at hn; cases hn
theorem mi_run_step {y pc pc' : Nat} {ls ls' : mLs} {st st' : List mV} {M M' : mM} (h : mi_step y pc ls st M = some (.inl (pc', ls', st', M'))) : mi_run y pc ls st M = mi_run y pc' ls' st' M' := by
  refine mi_opt fun q => ?_
  rw [mi_run_iff, mi_run_iff]
  constructor
  · rintro ⟨n, hn⟩
    cases n with
    | zero => cases hn
    | succ n => rw [mi_exN_S, h] at hn; exact ⟨n, hn⟩
  · rintro ⟨n, hn⟩
    exact ⟨n + 1, by rw [mi_exN_S, h]; exact hn⟩
theorem mi_run_ret {y pc : Nat} {ls : mLs} {st : List mV} {M : mM} {v : mV} (h : mi_step y pc ls st M = some (.inr (.inl v))) : mi_run y pc ls st M = some (v, M) :=
  (mi_run_iff ..).mpr ⟨1, by rw [mi_exN_S, h]⟩
theorem mi_run_call {y pc z pc' : Nat} {ls ls' : mLs} {st as r : List mV} {M : mM} (h : mi_step y pc ls st M = some (.inr (.inr (z, as, pc', ls', r)))) :
    mi_run y pc ls st M = (mi_run z 0 (mi_ent 0 as) [] M).bind fun q => (mi_push z q.1 r).bind fun st' => mi_run y pc' ls' st' q.2 := by
  refine mi_opt fun q => ?_
  rw [mi_run_iff]
  simp only [Option.bind_eq_some_iff, mi_run_iff]
  constructor
  · rintro ⟨n, hn⟩
    cases n with
    | zero => cases hn
    | succ n =>
      rw [mi_exN_S, h] at hn
      simp only [Option.bind_eq_some_iff] at hn
      obtain ⟨a, h1, b, h2, h3⟩ := hn
      exact ⟨a, ⟨n, h1⟩, b, h2, ⟨n, h3⟩⟩
  · rintro ⟨a, ⟨n, h1⟩, b, h2, ⟨m, h3⟩⟩
    refine ⟨max n m + 1, ?_⟩
    rw [mi_exN_S, h]
    simp only [Option.bind_eq_some_iff]
    exact ⟨a, mi_more h1 (Nat.le_max_left _ _), b, h2, mi_more h3 (Nat.le_max_right _ _)⟩
-- answers of a kind
def mi_pI (q : mV × mM) : Option (Int32 × mM) := match q.1 with
  | .inl x => some (x, q.2)
  | _ => none
def mi_pL (q : mV × mM) : Option (Int64 × mM) := match q.1 with
  | .inr (.inl x) => some (x, q.2)
  | _ => none
def mi_pV (q : mV × mM) : Option mM := some q.2
noncomputable def mi_ex {β : Type} (φ : mV × mM → Option β) (y pc : Nat) (ls : mLs) (st : List mV) (M : mM) : Option β := (mi_run y pc ls st M).bind φ
section MX
variable {β : Type} {φ : mV × mM → Option β} {y pc : Nat} {ls : mLs} {st : List mV} {M : mM}
theorem mx_none (h : mi_step y pc ls st M = none) : mi_ex φ y pc ls st M = none := by unfold mi_ex; rw [mi_run_none h]; rfl
theorem mx_step {pc' : Nat} {ls' : mLs} {st' : List mV} {M' : mM} (h : mi_step y pc ls st M = some (.inl (pc', ls', st', M'))) : mi_ex φ y pc ls st M = mi_ex φ y pc' ls' st' M' := by
  unfold mi_ex; rw [mi_run_step h]
theorem mx_ret {v : mV} {o : Option β} (h : mi_step y pc ls st M = some (.inr (.inl v))) (ho : φ (v, M) = o) : mi_ex φ y pc ls st M = o := by
  unfold mi_ex; rw [mi_run_ret h]; exact ho
theorem mx_callI {z pc' : Nat} {ls' : mLs} {as r : List mV} (h : mi_step y pc ls st M = some (.inr (.inr (z, as, pc', ls', r)))) (hz : mi_rt z = some .int ∨ mi_rt z = some .boolean) :
    mi_ex φ y pc ls st M = (mi_ex mi_pI z 0 (mi_ent 0 as) [] M).bind fun q => mi_ex φ y pc' ls' (.inl q.1 :: r) q.2 := by
  unfold mi_ex
  rw [mi_run_call h, Option.bind_assoc, Option.bind_assoc]
  congr 1
  funext q
  obtain ⟨v, M'⟩ := q
  rcases v with x | x | x <;> rcases hz with hz | hz <;> simp [mi_pI, mi_push, hz]
theorem mx_callL {z pc' : Nat} {ls' : mLs} {as r : List mV} (h : mi_step y pc ls st M = some (.inr (.inr (z, as, pc', ls', r)))) (hz : mi_rt z = some .long) :
    mi_ex φ y pc ls st M = (mi_ex mi_pL z 0 (mi_ent 0 as) [] M).bind fun q => mi_ex φ y pc' ls' (.inr (.inl q.1) :: r) q.2 := by
  unfold mi_ex
  rw [mi_run_call h, Option.bind_assoc, Option.bind_assoc]
  congr 1
  funext q
  obtain ⟨v, M'⟩ := q
  rcases v with x | x | x <;> simp [mi_pL, mi_push, hz]
theorem mx_callV {z pc' : Nat} {ls' : mLs} {as r : List mV} (h : mi_step y pc ls st M = some (.inr (.inr (z, as, pc', ls', r)))) (hz : mi_rt z = none) :
    mi_ex φ y pc ls st M = (mi_ex mi_pV z 0 (mi_ent 0 as) [] M).bind fun M' => mi_ex φ y pc' ls' r M' := by
  unfold mi_ex
  rw [mi_run_call h, Option.bind_assoc, Option.bind_assoc]
  congr 1
  funext q
  obtain ⟨v, M'⟩ := q
  simp [mi_pV, mi_push, hz]
/-- many plain steps at once -/
def mi_stN : Nat → Nat → Nat → mLs → List mV → mM → Option mS
  | 0, _, pc, ls, st, M => some (pc, ls, st, M)
  | n + 1, y, pc, ls, st, M => match mi_step y pc ls st M with
    | some (.inl (pc', ls', st', M')) => mi_stN n y pc' ls' st' M'
    | _ => none
theorem mx_steps (n : Nat) : ∀ {y pc : Nat} {ls : mLs} {st : List mV} {M : mM} {pc' : Nat} {ls' : mLs} {st' : List mV} {M' : mM}, mi_stN n y pc ls st M = some (pc', ls', st', M') → mi_ex φ y pc ls st M = mi_ex φ y pc' ls' st' M' := by
  induction n with
  | zero => intro y pc ls st M pc' ls' st' M' h; cases h; rfl
  | succ n ih =>
    intro y pc ls st M pc' ls' st' M' h
    rw [mi_stN] at h
    rcases hs : mi_step y pc ls st M with _ | ⟨⟨a, b, c, d⟩ | v | ⟨z, as, a, b, r⟩⟩ <;> rw [hs] at h
    · cases h
    · exact (mx_step hs).trans (ih h)
    · cases h
    · cases h
theorem mx_at {i : Instr} (h : mi_at y pc = some i) : mi_step y pc ls st M = mi_do y pc ls st M i := by unfold mi_step; rw [h]
/-- a step that looks at a place of a row first -/
theorem mx_ixd {i : Int32} {n : Nat} {F : Nat → Option mO} {G : Nat → Option β} (h : mi_step y pc ls st M = (mi_ix i n).bind F) (hF : ∀ k, ∀ s, s = F k → (match s with
    | some (.inl (pc', ls', st', M')) => mi_ex φ y pc' ls' st' M' = G k
    | _ => False)) : mi_ex φ y pc ls st M = (mi_ix i n).bind G := by
  rcases hi : mi_ix i n with _ | k
  · rw [hi] at h; exact mx_none h
  · rw [hi] at h
    have h2 := hF k _ rfl
    have h1 : mi_step y pc ls st M = F k := h
    rcases hk : F k with _ | ⟨⟨a, b, c, d⟩ | v | w⟩ <;> rw [hk] at h2 h1
    · exact h2.elim
    · exact (mx_step h1).trans h2
    · exact h2.elim
    · exact h2.elim
theorem mx_ix {i : Int32} {n : Nat} {pc' : Nat} {ls' : mLs} {sf : Nat → List mV} {Mf : Nat → mM} (h : mi_step y pc ls st M = (mi_ix i n).bind fun k => some (.inl (pc', ls', sf k, Mf k))) :
    mi_ex φ y pc ls st M = (mi_ix i n).bind fun k => mi_ex φ y pc' ls' (sf k) (Mf k) := by
  rcases hi : mi_ix i n with _ | k
  · rw [hi] at h; exact mx_none h
  · rw [hi] at h; exact mx_step h
theorem mx_ac {o : Option mM} {pc' : Nat} {ls' : mLs} {r : List mV} (h : mi_step y pc ls st M = o.bind fun M1 => some (.inl (pc', ls', r, M1))) :
    mi_ex φ y pc ls st M = o.bind fun M1 => mi_ex φ y pc' ls' r M1 := by
  rcases o with _ | M1
  · exact mx_none h
  · exact mx_step h
theorem mx_if {c : Prop} [Decidable c] {p1 p2 : Nat} {l1 l2 : mLs} {s1 s2 : List mV} {M1 M2 : mM} (h : mi_step y pc ls st M = if c then some (.inl (p1, l1, s1, M1)) else some (.inl (p2, l2, s2, M2))) :
    mi_ex φ y pc ls st M = if c then mi_ex φ y p1 l1 s1 M1 else mi_ex φ y p2 l2 s2 M2 := by
  by_cases hc : c
  · rw [if_pos hc] at h ⊢; exact mx_step h
  · rw [if_neg hc] at h ⊢; exact mx_step h
end MX
theorem mi_itc {β : Type} {c : Prop} [Decidable c] {A A' B B' : β} (a : A = A') (b : B = B') : (if c then A else B) = if c then A' else B' := by rw [a, b]
theorem mi_bdc {α β : Type} {o : Option α} {F G : α → Option β} (h : ∀ v, F v = G v) : o.bind F = o.bind G := by rw [funext h]
theorem mx_retb {β : Type} {φ : mV × mM → Option β} {y pc : Nat} {ls : mLs} {st : List mV} {M : mM} {v : mV} {o : Option β} {c : Prop} [Decidable c] (h : mi_step y pc ls st M = if c then some (.inr (.inl v)) else none) (ho : φ (v, M) = o) : mi_ex φ y pc ls st M = if c then o else none := by
  by_cases hc : c
  · rw [if_pos hc] at h ⊢; exact mx_ret h ho
  · rw [if_neg hc] at h ⊢; exact mx_none h
theorem mx_table {β : Type} {φ : mV × mM → Option β} {y pc : Nat} {ls : mLs} {st : List mV} {M : mM} {x : Int32} {lo : Int} {ts : List Nat} {d : Nat} (h : mi_step y pc ls (.inl x :: st) M = some (.inl (mi_sw x lo ts d, mi_jmp y (mi_sw x lo ts d) ls, st, M))) : mi_ex φ y pc ls (.inl x :: st) M = mi_ex φ y (mi_sw x lo ts d) (mi_jmp y (mi_sw x lo ts d) ls) st M := mx_step h
theorem mi_swc {β : Type} {F : Nat → β} {x k : Int32} {lo : Int} {t d : Nat} {ts : List Nat} {A B : β} (hk : Int32.ofInt lo = k) (a : F t = A) (b : F (mi_sw x (lo + 1) ts d) = B) : F (mi_sw x lo (t :: ts) d) = if x = k then A else B := by
  subst hk
  rw [mi_sw]
  by_cases hx : x = Int32.ofInt lo
  · rw [if_pos hx, if_pos hx]; exact a
  · rw [if_neg hx, if_neg hx]; exact b
