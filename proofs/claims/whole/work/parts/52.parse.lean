/-! PURE: the text read -/
def pp_sk (tx : pV) (t : Nat) : Nat → Nat → Nat
  | 0, p => p
  | c + 1, p => if p < t ∧ tx p = 32 then pp_sk tx t c (p + 1) else p
def pp_s (tx : pV) (t p : Nat) : Nat := pp_sk tx t (t - p) p
def pp_c (tx : pV) (t p : Nat) : Int32 := if p < t then tx p else -1
def pp_f (tx : pV) (t p : Nat) : Bool := decide (p < t ∧ pv_in (tx p) 48 57 = true)
def pp_dg (tx : pV) (t : Nat) : Nat → Nat → Int32 → Nat × Int32
  | 0, p, v => (p, v)
  | c + 1, p, v => if pp_f tx t p = true then pp_dg tx t c (p + 1) (((10 * v) + tx p) - 48) else (p, v)
/-- a number behind its sign -/
def pp_n1 (tx : pV) (t : Nat) (s : Bool) (p : Nat) : Bool × Nat × Int32 := (decide (p < (pp_dg tx t 3 p 0).1) && !pp_f tx t (pp_dg tx t 3 p 0).1, (pp_dg tx t 3 p 0).1, if s = true then -(pp_dg tx t 3 p 0).2 else (pp_dg tx t 3 p 0).2)
def pp_n (tx : pV) (t : Nat) (sg : Bool) (p : Nat) : Bool × Nat × Int32 := if sg = true ∧ p < t ∧ tx p = 45 then pp_n1 tx t true (p + 1) else pp_n1 tx t false p
/-- the numbers of an order, from the k-th of N on -/
def pp_ns (tx : pV) (t : Nat) (rt : Bool) (N : Nat) : Nat → Nat → Nat → Bool × Nat × List Int32
  | 0, _, p => (true, p, [])
  | c + 1, k, p => if (pp_n tx t (rt && decide (k = N)) (pp_s tx t p)).1 = true then ((pp_ns tx t rt N c (k + 1) (pp_n tx t (rt && decide (k = N)) (pp_s tx t p)).2.1).1, (pp_ns tx t rt N c (k + 1) (pp_n tx t (rt && decide (k = N)) (pp_s tx t p)).2.1).2.1, (pp_n tx t (rt && decide (k = N)) (pp_s tx t p)).2.2 :: (pp_ns tx t rt N c (k + 1) (pp_n tx t (rt && decide (k = N)) (pp_s tx t p)).2.1).2.2) else (false, (pp_n tx t (rt && decide (k = N)) (pp_s tx t p)).2.1, [])
theorem pp_ns_S (tx : pV) (t : Nat) (rt : Bool) (N c k p : Nat) : pp_ns tx t rt N (c + 1) k p = if (pp_n tx t (rt && decide (k = N)) (pp_s tx t p)).1 = true then ((pp_ns tx t rt N c (k + 1) (pp_n tx t (rt && decide (k = N)) (pp_s tx t p)).2.1).1, (pp_ns tx t rt N c (k + 1) (pp_n tx t (rt && decide (k = N)) (pp_s tx t p)).2.1).2.1, (pp_n tx t (rt && decide (k = N)) (pp_s tx t p)).2.2 :: (pp_ns tx t rt N c (k + 1) (pp_n tx t (rt && decide (k = N)) (pp_s tx t p)).2.1).2.2) else (false, (pp_n tx t (rt && decide (k = N)) (pp_s tx t p)).2.1, []) := rfl
/-- the semicolon -/
def pp_e (tx : pV) (t p : Nat) : Bool × Nat := if pp_s tx t p < t ∧ tx (pp_s tx t p) = 59 then (true, pp_s tx t p + 1) else (false, pp_s tx t p)
def pp_ne (tx : pV) (t : Nat) (r : Bool × Nat × List Int32) : Bool × Nat := if r.1 = true then pp_e tx t r.2.1 else (false, r.2.1)
def pp_N (L : Int32) : Nat := if L = 107 then 1 else if L = 108 then 3 else if L = 110 then 2 else if L = 111 then 3 else if L = 115 then 2 else if L = 116 then 1 else if L = 117 then 1 else 0
def pp_rt (L : Int32) : Bool := decide (L = 110 ∨ L = 111)
def pp_l (tx : pV) (t p : Nat) : Bool × Nat × List Int32 := pp_ns tx t (pp_rt (pp_c tx t p)) (pp_N (pp_c tx t p)) (pp_N (pp_c tx t p)) 1 (p + 1)
def pp_o (tx : pV) (t p : Nat) : Bool × Nat × List Int32 := if pp_N (pp_c tx t p) = 0 then (false, p, []) else ((pp_ne tx t (pp_l tx t p)).1, (pp_ne tx t (pp_l tx t p)).2, pp_c tx t p :: (pp_l tx t p).2.2)
def pp_a (tx : pV) (t : Nat) : Nat → Nat → Bool × Nat × List (List Int32)
  | 0, p => (true, p, [])
  | c + 1, p => if p < t then (if (pp_o tx t p).1 = true then ((pp_a tx t c (pp_s tx t (pp_o tx t p).2.1)).1, (pp_a tx t c (pp_s tx t (pp_o tx t p).2.1)).2.1, (pp_o tx t p).2.2 :: (pp_a tx t c (pp_s tx t (pp_o tx t p).2.1)).2.2) else (false, (pp_o tx t p).2.1, [])) else (true, p, [])
theorem pp_a_S (tx : pV) (t c p : Nat) : pp_a tx t (c + 1) p = if p < t then (if (pp_o tx t p).1 = true then ((pp_a tx t c (pp_s tx t (pp_o tx t p).2.1)).1, (pp_a tx t c (pp_s tx t (pp_o tx t p).2.1)).2.1, (pp_o tx t p).2.2 :: (pp_a tx t c (pp_s tx t (pp_o tx t p).2.1)).2.2) else (false, (pp_o tx t p).2.1, [])) else (true, p, []) := rfl
section PP
variable {tx : pV} {t : Nat}
theorem pp_s_eq (p : Nat) : pp_s tx t p = if p < t ∧ tx p = 32 then pp_s tx t (p + 1) else p := by
  unfold pp_s
  by_cases h : p < t
  · rw [show t - p = (t - (p + 1)) + 1 by omega]
    rfl
  · rw [show t - p = 0 by omega, if_neg (fun z => h z.1)]
    rfl
theorem pp_sk_ge : ∀ (c p : Nat), p ≤ pp_sk tx t c p ∧ (p ≤ t → pp_sk tx t c p ≤ t) := by
  intro c
  induction c with
  | zero => intro p; exact ⟨Nat.le_refl _, fun h => h⟩
  | succ c ih =>
    intro p
    unfold pp_sk
    split
    · next h =>
      obtain ⟨a, b⟩ := ih (p + 1)
      exact ⟨by omega, fun _ => b (by omega)⟩
    · exact ⟨Nat.le_refl _, fun h => h⟩
theorem pp_s_ge (p : Nat) : p ≤ pp_s tx t p := (pp_sk_ge (t - p) p).1
theorem pp_s_le {p : Nat} (h : p ≤ t) : pp_s tx t p ≤ t := (pp_sk_ge (t - p) p).2 h
theorem pp_sk_nb : ∀ (c p : Nat), t ≤ p + c → pp_sk tx t c p < t → ¬ tx (pp_sk tx t c p) = 32 := by
  intro c
  induction c with
  | zero => intro p h1 h2; exact absurd h2 (show ¬ p < t by omega)
  | succ c ih =>
    intro p h1
    unfold pp_sk
    split
    · exact ih (p + 1) (by omega)
    · next h => exact fun h2 e => h ⟨h2, e⟩
theorem pp_s_nb {p : Nat} (h : pp_s tx t p < t) : ¬ tx (pp_s tx t p) = 32 := pp_sk_nb (t - p) p (by omega) h
theorem pp_s_id (p : Nat) : pp_s tx t (pp_s tx t p) = pp_s tx t p := by
  rw [pp_s_eq (pp_s tx t p), if_neg (fun z => pp_s_nb z.1 z.2)]
theorem pp_dg_S (c p : Nat) (v : Int32) : pp_dg tx t (c + 1) p v = if pp_f tx t p = true then pp_dg tx t c (p + 1) (((10 * v) + tx p) - 48) else (p, v) := rfl
theorem pp_f_lt {p : Nat} (h : pp_f tx t p = true) : p < t := by
  unfold pp_f at h
  rw [decide_eq_true_eq] at h
  exact h.1
theorem pp_dg_ge : ∀ (c p : Nat) (v : Int32), p ≤ (pp_dg tx t c p v).1 ∧ (p ≤ t → (pp_dg tx t c p v).1 ≤ t) := by
  intro c
  induction c with
  | zero => intro p v; exact ⟨Nat.le_refl _, fun h => h⟩
  | succ c ih =>
    intro p v
    rw [pp_dg_S]
    split
    · next h =>
      have := pp_f_lt h
      obtain ⟨a, b⟩ := ih (p + 1) (((10 * v) + tx p) - 48)
      exact ⟨by omega, fun _ => b (by omega)⟩
    · exact ⟨Nat.le_refl _, fun h => h⟩
theorem pp_n1_ge {s : Bool} {p : Nat} (hp : p ≤ t) : p ≤ (pp_n1 tx t s p).2.1 ∧ (pp_n1 tx t s p).2.1 ≤ t ∧ ((pp_n1 tx t s p).1 = true → p < (pp_n1 tx t s p).2.1) := by
  obtain ⟨a, b⟩ := pp_dg_ge (tx := tx) (t := t) 3 p 0
  refine ⟨a, b hp, fun h => ?_⟩
  have h2 := (Bool.and_eq_true _ _ ▸ h : _ ∧ _).1
  rw [decide_eq_true_eq] at h2
  exact h2
theorem pp_n_ge {sg : Bool} {p : Nat} (hp : p ≤ t) : p ≤ (pp_n tx t sg p).2.1 ∧ (pp_n tx t sg p).2.1 ≤ t ∧ ((pp_n tx t sg p).1 = true → p < (pp_n tx t sg p).2.1) := by
  unfold pp_n
  split
  · next h =>
    obtain ⟨a, b, c⟩ := pp_n1_ge (tx := tx) (t := t) (s := true) (p := p + 1) (by omega)
    exact ⟨by omega, b, fun z => by have := c z; omega⟩
  · exact pp_n1_ge hp
theorem pp_ns_ge {rt : Bool} {N : Nat} : ∀ (c k p : Nat), p ≤ t → p ≤ (pp_ns tx t rt N c k p).2.1 ∧ (pp_ns tx t rt N c k p).2.1 ≤ t ∧ ((pp_ns tx t rt N c k p).1 = true → p + c ≤ (pp_ns tx t rt N c k p).2.1 ∧ (pp_ns tx t rt N c k p).2.2.length = c) := by
  intro c
  induction c with
  | zero => intro k p hp; exact ⟨Nat.le_refl _, hp, fun _ => ⟨Nat.le_refl _, rfl⟩⟩
  | succ c ih =>
    intro k p hp
    rw [pp_ns_S]
    have s1 := pp_s_ge (tx := tx) (t := t) p
    have s2 := pp_s_le (tx := tx) hp
    obtain ⟨n1, n2, n3⟩ := pp_n_ge (tx := tx) (sg := rt && decide (k = N)) s2
    split
    · next h =>
      obtain ⟨a, b, d⟩ := ih (k + 1) _ n2
      have n4 := n3 h
      refine ⟨by show p ≤ (pp_ns tx t rt N c (k + 1) _).2.1; omega, b, fun z => ?_⟩
      obtain ⟨d1, d2⟩ := d z
      exact ⟨by show p + (c + 1) ≤ (pp_ns tx t rt N c (k + 1) _).2.1; omega, congrArg (· + 1) d2⟩
    · exact ⟨by show p ≤ (pp_n tx t _ _).2.1; omega, n2, fun z => absurd (show false = true from z) (by decide)⟩
theorem pp_e_ge {p : Nat} (hp : p ≤ t) : p ≤ (pp_e tx t p).2 ∧ (pp_e tx t p).2 ≤ t ∧ ((pp_e tx t p).1 = true → p + 1 ≤ (pp_e tx t p).2) := by
  have s1 := pp_s_ge (tx := tx) (t := t) p
  have s2 := pp_s_le (tx := tx) hp
  unfold pp_e
  split
  · next h => exact ⟨by show p ≤ pp_s tx t p + 1; omega, h.1, fun _ => by show p + 1 ≤ pp_s tx t p + 1; omega⟩
  · exact ⟨s1, s2, fun z => absurd (show false = true from z) (by decide)⟩
theorem pp_N_end (p : Nat) (h : ¬ p < t) : pp_N (pp_c tx t p) = 0 := by
  unfold pp_c
  rw [if_neg h]
  rfl
theorem pp_N_let {L : Int32} (h : ¬ pp_N L = 0) : L = 107 ∨ L = 108 ∨ L = 110 ∨ L = 111 ∨ L = 115 ∨ L = 116 ∨ L = 117 := by
  unfold pp_N at h
  by_cases e1 : L = 107
  · exact Or.inl e1
  rw [if_neg e1] at h
  by_cases e2 : L = 108
  · exact Or.inr (Or.inl e2)
  rw [if_neg e2] at h
  by_cases e3 : L = 110
  · exact Or.inr (Or.inr (Or.inl e3))
  rw [if_neg e3] at h
  by_cases e4 : L = 111
  · exact Or.inr (Or.inr (Or.inr (Or.inl e4)))
  rw [if_neg e4] at h
  by_cases e5 : L = 115
  · exact Or.inr (Or.inr (Or.inr (Or.inr (Or.inl e5))))
  rw [if_neg e5] at h
  by_cases e6 : L = 116
  · exact Or.inr (Or.inr (Or.inr (Or.inr (Or.inr (Or.inl e6)))))
  rw [if_neg e6] at h
  by_cases e7 : L = 117
  · exact Or.inr (Or.inr (Or.inr (Or.inr (Or.inr (Or.inr e7)))))
  rw [if_neg e7] at h
  exact absurd rfl h
theorem pp_N_le (L : Int32) : pp_N L ≤ 3 := by
  by_cases h : pp_N L = 0
  · omega
  · rcases pp_N_let h with e | e | e | e | e | e | e <;> rw [e] <;> decide
theorem pp_o_ge {p : Nat} (hp : p ≤ t) : p ≤ (pp_o tx t p).2.1 ∧ (pp_o tx t p).2.1 ≤ t ∧ ((pp_o tx t p).1 = true → p + 3 ≤ (pp_o tx t p).2.1 ∧ ¬ pp_N (pp_c tx t p) = 0 ∧ (pp_o tx t p).2.2 = pp_c tx t p :: (pp_l tx t p).2.2 ∧ (pp_l tx t p).2.2.length = pp_N (pp_c tx t p)) := by
  unfold pp_o
  by_cases h0 : pp_N (pp_c tx t p) = 0
  · rw [if_pos h0]
    exact ⟨Nat.le_refl _, hp, fun z => absurd (show false = true from z) (by decide)⟩
  · rw [if_neg h0]
    have hlt : p < t := Classical.byContradiction fun z => h0 (pp_N_end p z)
    obtain ⟨a, b, c⟩ := pp_ns_ge (tx := tx) (t := t) (rt := pp_rt (pp_c tx t p)) (N := pp_N (pp_c tx t p)) (pp_N (pp_c tx t p)) 1 (p + 1) (by omega)
    have a' : p + 1 ≤ (pp_l tx t p).2.1 := a
    have b' : (pp_l tx t p).2.1 ≤ t := b
    obtain ⟨x, y, z⟩ := pp_e_ge (tx := tx) b'
    have ne : pp_ne tx t (pp_l tx t p) = if (pp_l tx t p).1 = true then pp_e tx t (pp_l tx t p).2.1 else (false, (pp_l tx t p).2.1) := rfl
    by_cases h1 : (pp_l tx t p).1 = true
    · rw [if_pos h1] at ne
      rw [ne]
      obtain ⟨c1, c2⟩ := c h1
      have c1' : p + 1 + pp_N (pp_c tx t p) ≤ (pp_l tx t p).2.1 := c1
      exact ⟨by show p ≤ (pp_e tx t (pp_l tx t p).2.1).2; omega, y, fun q => ⟨by have := z q; show p + 3 ≤ (pp_e tx t (pp_l tx t p).2.1).2; omega, h0, rfl, c2⟩⟩
    · rw [if_neg h1] at ne
      rw [ne]
      exact ⟨by show p ≤ (pp_l tx t p).2.1; omega, b', fun q => absurd (show false = true from q) (by decide)⟩
/-- each order read has its letter and as many numbers as its letter wants -/
theorem pp_a_ok : ∀ (c p : Nat), p ≤ t → (pp_a tx t c p).2.2.length ≤ c ∧ (∀ a, a < (pp_a tx t c p).2.2.length → ∃ L ns, (pp_a tx t c p).2.2.getD a [] = L :: ns ∧ ns.length = pp_N L ∧ ¬ pp_N L = 0) := by
  intro c
  induction c with
  | zero => intro p hp; exact ⟨Nat.le_refl _, fun a ha => absurd ha (Nat.not_lt_zero a)⟩
  | succ c ih =>
    intro p hp
    rw [pp_a_S]
    obtain ⟨o1, o2, o3⟩ := pp_o_ge (tx := tx) hp
    split
    · split
      · next h =>
        obtain ⟨o4, o5, o6, o7⟩ := o3 h
        obtain ⟨i1, i2⟩ := ih (pp_s tx t (pp_o tx t p).2.1) (pp_s_le o2)
        refine ⟨Nat.succ_le_succ i1, fun a ha => ?_⟩
        rcases a with _ | a
        · exact ⟨_, _, o6, o7, o5⟩
        · exact i2 a (Nat.lt_of_succ_lt_succ ha)
      · exact ⟨Nat.zero_le _, fun a ha => absurd ha (Nat.not_lt_zero a)⟩
    · exact ⟨Nat.zero_le _, fun a ha => absurd ha (Nat.not_lt_zero a)⟩
end PP
