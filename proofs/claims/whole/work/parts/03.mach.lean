/-! THE SMALL MACHINE: a pure reading of the bytecode that this class, its law and the reference use, over a memory of numbers.
    A handle is (kind, net, row). Memory: numbers by (kind, net, place); which net the class's references name; one long. -/
abbrev mHd : Type := Nat × Nat × Nat
abbrev mV : Type := Int32 ⊕ (Int64 ⊕ mHd)
abbrev mM : Type := (Nat → Nat → Nat → Int32) × (Nat → Nat) × Int64
abbrev mLs : Type := List (Nat × mV)
abbrev mS : Type := Nat × mLs × List mV × mM
abbrev mO : Type := mS ⊕ (mV ⊕ (Nat × List mV × Nat × mLs × List mV))
abbrev mI (x : Int32) : mV := .inl x
abbrev mL (x : Int64) : mV := .inr (.inl x)
abbrev mR (t j i : Nat) : mV := .inr (.inr (t, j, i))
def mi_up (D : Nat → Nat → Nat → Int32) (t j : Nat) (v : Nat → Int32) : Nat → Nat → Nat → Int32 := fun a b => if a = t ∧ b = j then v else D a b
def mi_set (M : mM) (t j k : Nat) (x : Int32) : mM := (mi_up M.1 t j (upd (M.1 t j) k x), M.2.1, M.2.2)
def mi_setS (M : mM) (k v : Nat) : mM := (M.1, va_up M.2.1 k v, M.2.2)
def mi_setL (M : mM) (x : Int64) : mM := (M.1, M.2.1, x)
/-- a place in a row of n: its number, if it is one -/
def mi_ix (i : Int32) (n : Nat) : Option Nat := if i < 0 ∨ n ≤ i.toNatClampNeg then none else some i.toNatClampNeg
/-- rows of ints that the objects hold: (kind, net, first place, length) of their numbers -/
def mi_sl : mHd → Option (Nat × Nat × Nat × Nat)
  | (12, j, i) => some (0, j, 6 + 8 * i, 8)
  | (14, j, i) => some (0, j, 54 + 10 * i, 10)
  | (15, j, _) => some (0, j, 0, 3)
  | (17, j, i) => some (1, j, 4 * i, 4)
  | (18, j, _) => some (2, j, 0, 10)
  | (21, _, i) => some (5, 0, 4 * i, 4)
  | (22, _, _) => some (4, 0, 0, 120)
  | (30, _, _) => some (30, 0, 0, 154)
  | (31, _, _) => some (31, 0, 0, 154)
  | (32, _, _) => some (32, 0, 0, 770)
  | (33, _, _) => some (33, 0, 0, 3)
  | (34, _, _) => some (34, 0, 0, 6)
  | (35, _, _) => some (35, 0, 0, 30)
  | (36, _, _) => some (36, 0, 0, 6)
  | (37, _, _) => some (37, 0, 0, 154)
  | (38, _, _) => some (38, 0, 0, 120)
  | (39, _, _) => some (39, 0, 0, 40)
  | (40, _, _) => some (40, 0, 0, 120)
  | _ => none
def mi_c60 (k : Nat) : Int32 := if k = 0 then 4 else if k = 1 then 0 else 1
def mi_c61 (k : Nat) : Int32 := if k = 0 then 64 else if k = 1 then 128 else 9
/-- what an int array holds: how many, which -/
def mi_rd (h : mHd) (M : mM) : Option (Nat × (Nat → Int32)) := match h.1 with
  | 50 => some ((M.1 51 0 0).toNatClampNeg, M.1 50 0)
  | 60 => some (3, mi_c60)
  | 61 => some (3, mi_c61)
  | _ => match mi_sl h with
    | some (t, j, o, n) => some (n, fun k => M.1 t j (o + k))
    | none => none
/-- what an array of references holds: how many, which -/
def mi_rr (h : mHd) (M : mM) : Option (Nat × (Nat → mHd)) := match h with
  | (10, _, _) => some (5, fun k => (0, M.2.1 (2 + k), 0))
  | (11, j, _) => some (6, fun k => (12, j, k))
  | (13, j, _) => some (10, fun k => (14, j, k))
  | (16, j, _) => some (6, fun k => (17, j, k))
  | (20, _, _) => some (40, fun k => (21, 0, k))
  | _ => none
/-- int fields: class, slot; kind and place of the number -/
def mi_fI (c k : Nat) : Option (Nat × Nat) := match c, k with
  | 0, 3 => some (0, 4)
  | 0, 4 => some (0, 5)
  | 0, 5 => some (0, 3)
  | 1, 0 => some (6, 0)
  | 1, 1 => some (6, 1)
  | 1, 2 => some (6, 2)
  | 2, 3 => some (3, 0)
  | 2, 5 => some (3, 1)
  | 2, 6 => some (3, 2)
  | 2, 7 => some (3, 3)
  | 3, 3 => some (41, 0)
  | 3, 8 => some (41, 1)
  | 3, 9 => some (41, 2)
  | 3, 12 => some (41, 3)
  | 3, 13 => some (41, 4)
  | 3, 14 => some (41, 5)
  | 3, 15 => some (41, 6)
  | _, _ => none
/-- fields that hold references: class, slot, net -/
def mi_fR (c k j : Nat) (S : Nat → Nat) : Option mHd := match c, k with
  | 0, 0 => some (11, j, 0)
  | 0, 1 => some (13, j, 0)
  | 0, 2 => some (15, j, 0)
  | 0, 6 => some (16, j, 0)
  | 0, 7 => some (18, j, 0)
  | 1, 3 => some (20, 0, 0)
  | 1, 4 => some (22, 0, 0)
  | 2, 0 => some (0, S 0, 0)
  | 2, 1 => some (0, S 1, 0)
  | 2, 2 => some (10, 0, 0)
  | 2, 4 => some (1, 0, 0)
  | 3, 0 => some (30, 0, 0)
  | 3, 1 => some (31, 0, 0)
  | 3, 2 => some (32, 0, 0)
  | 3, 4 => some (33, 0, 0)
  | 3, 5 => some (34, 0, 0)
  | 3, 6 => some (35, 0, 0)
  | 3, 7 => some (36, 0, 0)
  | 3, 10 => some (37, 0, 0)
  | 3, 11 => some (38, 0, 0)
  | 3, 16 => some (39, 0, 0)
  | 3, 17 => some (40, 0, 0)
  | _, _ => none
/-- a field's value -/
def mi_gf (c k : Nat) (h : mHd) (M : mM) : Option mV := match Nat.beq h.1 c with
  | false => none
  | true => match mi_fI c k with
    | some (t, p) => some (.inl (M.1 t h.2.1 p))
    | none => match mi_fR c k h.2.1 M.2.1 with
      | some g => some (.inr (.inr g))
      | none => if c = 3 ∧ k = 18 then some (.inr (.inl M.2.2)) else none
/-- a field written -/
def mi_pf (c k : Nat) (h : mHd) (v : mV) (M : mM) : Option mM := match Nat.beq h.1 c with
  | false => none
  | true => match v with
    | .inl x => match mi_fI c k with
      | some (t, p) => match c, k with
        | 3, 9 => if x = 0 ∨ x = 1 then some (mi_set M t h.2.1 p x) else none
        | _, _ => some (mi_set M t h.2.1 p x)
      | none => none
    | .inr (.inl x) => if c = 3 ∧ k = 18 then some (mi_setL M x) else none
    | .inr (.inr (0, j, _)) => match c, k with
      | 2, 0 => some (mi_setS M 0 j)
      | 2, 1 => some (mi_setS M 1 j)
      | _, _ => none
    | _ => none
/-- the first row's numbers laid over the second's -/
def mi_cpy (M : mM) (t0 j0 o0 t j o n : Nat) : mM := (mi_up M.1 t j (fun k => if o ≤ k ∧ k < o + n then M.1 t0 j0 (o0 + (k - o)) else M.1 t j k), M.2.1, M.2.2)
def mi_ac (h0 h1 : mHd) (sp dp n : Int32) (M : mM) : Option mM := match mi_sl h0, mi_sl h1 with
  | some (t0, j0, o0, n0), some (t, j, o, n1) => if h0 ≠ h1 ∧ sp = 0 ∧ dp = 0 ∧ n0 = n1 ∧ n = Int32.ofNat n0 then some (mi_cpy M t0 j0 o0 t j o n0) else none
  | _, _ => none
-- locals: by their places, rising
def mi_lg : mLs → Nat → Option mV
  | [], _ => none
  | (a, v) :: l, k => match Nat.beq a k with
    | true => some v
    | false => mi_lg l k
def mi_wide : mV → Bool
  | .inr (.inl _) => true
  | _ => false
def mi_ins : mLs → Nat → mV → mLs
  | [], k, v => [(k, v)]
  | (a, w) :: l, k, v => match Nat.ble a k with
    | true => (a, w) :: mi_ins l k v
    | false => (k, v) :: (a, w) :: l
/-- those that a store at k leaves -/
def mi_kp (k : Nat) : mLs → mLs
  | [] => []
  | (a, w) :: l => match Nat.beq a k || (Nat.beq (a + 1) k && mi_wide w) with
    | true => mi_kp k l
    | false => (a, w) :: mi_kp k l
def mi_kp2 (k : Nat) : mLs → mLs
  | [] => []
  | (a, w) :: l => match Nat.beq a k || (Nat.beq a (k + 1) || (Nat.beq (a + 1) k && mi_wide w)) with
    | true => mi_kp2 k l
    | false => (a, w) :: mi_kp2 k l
def mi_ls (l : mLs) (k : Nat) (v : mV) : mLs := mi_ins (mi_kp k l) k v
def mi_ls2 (l : mLs) (k : Nat) (v : mV) : mLs := mi_ins (mi_kp2 k l) k v
def mi_has : List Nat → Nat → Bool
  | [], _ => false
  | a :: l, k => Nat.beq a k || mi_has l k
def mi_only (ks : List Nat) : mLs → mLs
  | [] => []
  | (a, w) :: l => match mi_has ks a with
    | true => (a, w) :: mi_only ks l
    | false => mi_only ks l
def mi_cutAt : List (Nat × List Nat) → Nat → Option (List Nat)
  | [], _ => none
  | (a, ks) :: l, k => match Nat.beq a k with
    | true => some ks
    | false => mi_cutAt l k
/-- behind a step to pc: at a place that is named, only the locals that are read again -/
def mi_jmp (y pc : Nat) (l : mLs) : mLs := match mi_cutAt (mi_nth mi_cuts y []) pc with
  | some ks => mi_only ks l
  | none => l
def mi_ent : Nat → List mV → mLs
  | _, [] => []
  | i, v :: vs => (i, v) :: mi_ent (match mi_wide v with | true => i + 2 | false => i + 1) vs
def mi_look : List (Nat × Instr × Nat) → Nat → Option Instr
  | [], _ => none
  | (a, i, _) :: l, pc => match Nat.beq a pc with
    | true => some i
    | false => mi_look l pc
def mi_at (y pc : Nat) : Option Instr := mi_look (mi_tc y) pc
def mi_f3 : List (Nat × Nat × Nat × Nat) → Nat → Nat → Option (Nat × Nat)
  | [], _, _ => none
  | (a, b, p, q) :: l, c, k => match Nat.beq a c && Nat.beq b k with
    | true => some (p, q)
    | false => mi_f3 l c k
def mi_lc3 : List (Nat × Nat × Int64) → Nat → Nat → Option Int64
  | [], _, _ => none
  | (a, b, p) :: l, c, k => match Nat.beq a c && Nat.beq b k with
    | true => some p
    | false => mi_lc3 l c k
def mi_nx (y pc : Nat) (ls : mLs) (st : List mV) (M : mM) : Option mO := some (.inl (pc, mi_jmp y pc ls, st, M))
def mi_tg (pc : Nat) (off : Int) : Nat := ((pc : Int) + off).toNat
/-- n values from the stack, the deepest first, and the rest -/
def mi_pop : Nat → List mV → List mV → Option (List mV × List mV)
  | 0, st, acc => some (acc, st)
  | _ + 1, [], _ => none
  | n + 1, v :: st, acc => mi_pop n st (v :: acc)
def mi_cats : List mV → Nat
  | [] => 0
  | v :: l => (match mi_wide v with | true => 2 | false => 1) + mi_cats l
def mi_fits (y z : Nat) : Bool := Nat.ble (mi_rf z + 1) (mi_rf y) && Nat.ble (8 + (mi_mx z + 11) + mi_rl z) (mi_rl y)
/-- a virtual call's receiver is of the method's class -/
def mi_rcv (z : Nat) : List mV → Bool
  | .inr (.inr (t, _, _)) :: _ => Nat.beq t (mi_oc z)
  | _ => false
def mi_call (y pc : Nat) (ls : mLs) (st : List mV) (z : Nat) (virt : Bool) : Option mO := match mi_pop (mi_na z) st [] with
  | some (as, rest) => match mi_fits y z && Nat.ble (mi_cats rest) 8 && (!virt || mi_rcv z as) && Nat.ble (mi_cats as) (mi_mx z) with
    | true => some (.inr (.inr (z, as, pc + 3, mi_jmp y (pc + 3) ls, rest)))
    | false => none
  | none => none
/-- where a tableswitch goes -/
def mi_sw (x : Int32) : Int → List Nat → Nat → Nat
  | _, [], d => d
  | lo, t :: ts, d => if x = Int32.ofInt lo then t else mi_sw x (lo + 1) ts d
def mi_stat (y pc : Nat) (ls : mLs) (st : List mV) (M : mM) : Nat × Nat → Option mO
  | (1, z) => mi_call y pc ls st z false
  | (2, z) => mi_call y pc ls st z false
  | (3, _) => match st with
    | .inl b :: .inl a :: r => match Nat.ble (mi_cats r) 8 && Nat.ble 1 (mi_rf y) && Nat.ble 21 (mi_rl y) with
      | true => mi_nx y (pc + 3) ls (.inl (if b < a then b else a) :: r) M
      | false => none
    | _ => none
  | (4, _) => match st with
    | .inl b :: .inl a :: r => match Nat.ble (mi_cats r) 8 && Nat.ble 1 (mi_rf y) && Nat.ble 21 (mi_rl y) with
      | true => mi_nx y (pc + 3) ls (.inl (if a < b then b else a) :: r) M
      | false => none
    | _ => none
  | (5, _) => match st with
    | .inl a :: r => match Nat.ble (mi_cats r) 8 && Nat.ble 1 (mi_rf y) && Nat.ble 21 (mi_rl y) with
      | true => mi_nx y (pc + 3) ls (.inl (if 0 ≤ a then a else 0 - a) :: r) M
      | false => none
    | _ => none
  | (6, _) => match st with
    | .inl n :: .inl dp :: .inr (.inr h1) :: .inl sp :: .inr (.inr h0) :: r => match Nat.ble (mi_cats r) 8 && Nat.ble 1 (mi_rf y) && Nat.ble 60 (mi_rl y) with
      | true => (mi_ac h0 h1 sp dp n M).bind fun M1 => mi_nx y (pc + 3) ls r M1
      | false => none
    | _ => none
  | _ => none
def mi_do (y pc : Nat) (ls : mLs) (st : List mV) (M : mM) : Instr → Option mO
  | .iconst n => mi_nx y (pc + 1) ls (.inl (Int32.ofInt n) :: st) M
  | .bipush n => mi_nx y (pc + 2) ls (.inl (Int8.ofInt n).toInt32 :: st) M
  | .sipush n => mi_nx y (pc + 3) ls (.inl (Int16.ofInt n).toInt32 :: st) M
  | .ldc2_w k => match mi_lc3 mi_lcs (mi_oc y) k with
    | some v => mi_nx y (pc + 3) ls (.inr (.inl v) :: st) M
    | none => none
  | .iload_n k => match mi_lg ls k.val with
    | some (.inl x) => mi_nx y (pc + 1) ls (.inl x :: st) M
    | _ => none
  | .iload k => match mi_lg ls k with
    | some (.inl x) => mi_nx y (pc + 2) ls (.inl x :: st) M
    | _ => none
  | .lload_n k => match mi_lg ls k.val with
    | some (.inr (.inl x)) => mi_nx y (pc + 1) ls (.inr (.inl x) :: st) M
    | _ => none
  | .aload_n k => match mi_lg ls k.val with
    | some (.inr (.inr x)) => mi_nx y (pc + 1) ls (.inr (.inr x) :: st) M
    | _ => none
  | .aload k => match mi_lg ls k with
    | some (.inr (.inr x)) => mi_nx y (pc + 2) ls (.inr (.inr x) :: st) M
    | _ => none
  | .istore_n k => match st, Nat.blt k.val (mi_mx y) with
    | .inl x :: r, true => mi_nx y (pc + 1) (mi_ls ls k.val (.inl x)) r M
    | _, _ => none
  | .istore k => match st, Nat.blt k (mi_mx y) with
    | .inl x :: r, true => mi_nx y (pc + 2) (mi_ls ls k (.inl x)) r M
    | _, _ => none
  | .astore_n k => match st, Nat.blt k.val (mi_mx y) with
    | .inr (.inr x) :: r, true => mi_nx y (pc + 1) (mi_ls ls k.val (.inr (.inr x))) r M
    | _, _ => none
  | .astore k => match st, Nat.blt k (mi_mx y) with
    | .inr (.inr x) :: r, true => mi_nx y (pc + 2) (mi_ls ls k (.inr (.inr x))) r M
    | _, _ => none
  | .lstore_n k => match st, Nat.blt (k.val + 1) (mi_mx y) with
    | .inr (.inl x) :: r, true => mi_nx y (pc + 1) (mi_ls2 ls k.val (.inr (.inl x))) r M
    | _, _ => none
  | .iinc k n => match mi_lg ls k, Nat.blt k (mi_mx y) with
    | some (.inl x), true => mi_nx y (pc + 3) (mi_ls ls k (.inl (x + Int32.ofInt n))) st M
    | _, _ => none
  | .iadd => match st with
    | .inl b :: .inl a :: r => mi_nx y (pc + 1) ls (.inl (a + b) :: r) M
    | _ => none
  | .isub => match st with
    | .inl b :: .inl a :: r => mi_nx y (pc + 1) ls (.inl (a - b) :: r) M
    | _ => none
  | .imul => match st with
    | .inl b :: .inl a :: r => mi_nx y (pc + 1) ls (.inl (a * b) :: r) M
    | _ => none
  | .iand => match st with
    | .inl b :: .inl a :: r => mi_nx y (pc + 1) ls (.inl (a &&& b) :: r) M
    | _ => none
  | .ior => match st with
    | .inl b :: .inl a :: r => mi_nx y (pc + 1) ls (.inl (a ||| b) :: r) M
    | _ => none
  | .ishl => match st with
    | .inl b :: .inl a :: r => mi_nx y (pc + 1) ls (.inl (a <<< (b &&& 31)) :: r) M
    | _ => none
  | .ishr => match st with
    | .inl b :: .inl a :: r => mi_nx y (pc + 1) ls (.inl (a >>> (b &&& 31)) :: r) M
    | _ => none
  | .idiv => match st with
    | .inl b :: .inl a :: r => if b = 0 then none else mi_nx y (pc + 1) ls (.inl (a / b) :: r) M
    | _ => none
  | .irem => match st with
    | .inl b :: .inl a :: r => if b = 0 then none else mi_nx y (pc + 1) ls (.inl (a - a / b * b) :: r) M
    | _ => none
  | .ineg => match st with
    | .inl a :: r => mi_nx y (pc + 1) ls (.inl (-a) :: r) M
    | _ => none
  | .ladd => match st with
    | .inr (.inl b) :: .inr (.inl a) :: r => mi_nx y (pc + 1) ls (.inr (.inl (a + b)) :: r) M
    | _ => none
  | .lmul => match st with
    | .inr (.inl b) :: .inr (.inl a) :: r => mi_nx y (pc + 1) ls (.inr (.inl (a * b)) :: r) M
    | _ => none
  | .i2l => match st with
    | .inl a :: r => mi_nx y (pc + 1) ls (.inr (.inl a.toInt64) :: r) M
    | _ => none
  | .lcmp => match st with
    | .inr (.inl b) :: .inr (.inl a) :: r => mi_nx y (pc + 1) ls (.inl (lg_cmp a b) :: r) M
    | _ => none
  | .dup => match st with
    | v :: r => match mi_wide v with
      | false => mi_nx y (pc + 1) ls (v :: v :: r) M
      | true => none
    | _ => none
  | .pop => match st with
    | v :: r => match mi_wide v with
      | false => mi_nx y (pc + 1) ls r M
      | true => none
    | _ => none
  | .dup2 => match st with
    | v :: w :: r => match mi_wide v || mi_wide w with
      | false => mi_nx y (pc + 1) ls (v :: w :: v :: w :: r) M
      | true => none
    | _ => none
  | .ifCond cd off => match st with
    | .inl x :: r => match cd with
      | .eq => if x = 0 then mi_nx y (mi_tg pc off) ls r M else mi_nx y (pc + 3) ls r M
      | .ne => if ¬ x = 0 then mi_nx y (mi_tg pc off) ls r M else mi_nx y (pc + 3) ls r M
      | .lt => if x < 0 then mi_nx y (mi_tg pc off) ls r M else mi_nx y (pc + 3) ls r M
      | .ge => if 0 ≤ x then mi_nx y (mi_tg pc off) ls r M else mi_nx y (pc + 3) ls r M
      | .gt => if 0 < x then mi_nx y (mi_tg pc off) ls r M else mi_nx y (pc + 3) ls r M
      | .le => if x ≤ 0 then mi_nx y (mi_tg pc off) ls r M else mi_nx y (pc + 3) ls r M
    | _ => none
  | .if_icmp cd off => match st with
    | .inl b :: .inl a :: r => match cd with
      | .eq => if a = b then mi_nx y (mi_tg pc off) ls r M else mi_nx y (pc + 3) ls r M
      | .ne => if ¬ a = b then mi_nx y (mi_tg pc off) ls r M else mi_nx y (pc + 3) ls r M
      | .lt => if a < b then mi_nx y (mi_tg pc off) ls r M else mi_nx y (pc + 3) ls r M
      | .ge => if b ≤ a then mi_nx y (mi_tg pc off) ls r M else mi_nx y (pc + 3) ls r M
      | .gt => if b < a then mi_nx y (mi_tg pc off) ls r M else mi_nx y (pc + 3) ls r M
      | .le => if a ≤ b then mi_nx y (mi_tg pc off) ls r M else mi_nx y (pc + 3) ls r M
    | _ => none
  | .goto off => mi_nx y (mi_tg pc off) ls st M
  | .tableswitch d lo _ offs => match st with
    | .inl x :: r => mi_nx y (mi_sw x lo (offs.toList.map (mi_tg pc)) (mi_tg pc d)) ls r M
    | _ => none
  | .getfield k => match st, mi_f3 mi_fls (mi_oc y) k with
    | .inr (.inr h) :: r, some (c, f) => (mi_gf c f h M).bind fun v => mi_nx y (pc + 3) ls (v :: r) M
    | _, _ => none
  | .putfield k => match st, mi_f3 mi_fls (mi_oc y) k with
    | v :: .inr (.inr h) :: r, some (c, f) => (mi_pf c f h v M).bind fun M1 => mi_nx y (pc + 3) ls r M1
    | _, _ => none
  | .getstatic k => match mi_oc y, k with
    | 0, 98 => mi_nx y (pc + 3) ls (.inr (.inr (60, 0, 0)) :: st) M
    | 0, 101 => mi_nx y (pc + 3) ls (.inr (.inr (61, 0, 0)) :: st) M
    | _, _ => none
  | .arraylength => match st with
    | .inr (.inr h) :: r => match mi_rd h M with
      | some (n, _) => mi_nx y (pc + 1) ls (.inl (Int32.ofNat n) :: r) M
      | none => none
    | _ => none
  | .iaload => match st with
    | .inl i :: .inr (.inr h) :: r => match mi_rd h M with
      | some (n, f) => (mi_ix i n).bind fun k => mi_nx y (pc + 1) ls (.inl (f k) :: r) M
      | none => none
    | _ => none
  | .iastore => match st with
    | .inl x :: .inl i :: .inr (.inr h) :: r => match mi_sl h with
      | some (t, j, o, n) => (mi_ix i n).bind fun k => mi_nx y (pc + 1) ls r (mi_set M t j (o + k) x)
      | none => none
    | _ => none
  | .aaload => match st with
    | .inl i :: .inr (.inr h) :: r => match mi_rr h M with
      | some (n, f) => (mi_ix i n).bind fun k => mi_nx y (pc + 1) ls (.inr (.inr (f k)) :: r) M
      | none => none
    | _ => none
  | .aastore => match st with
    | .inr (.inr (0, j, _)) :: .inl i :: .inr (.inr (10, _, _)) :: r => (mi_ix i 5).bind fun k => mi_nx y (pc + 1) ls r (mi_setS M (2 + k) j)
    | _ => none
  | .invokevirtual k => match mi_f3 mi_mls (mi_oc y) k with
    | some (0, z) => mi_call y pc ls st z true
    | _ => none
  | .invokestatic k => match mi_f3 mi_mls (mi_oc y) k with
    | some q => mi_stat y pc ls st M q
    | none => none
  | .ireturn => match st, mi_rt y with
    | [.inl x], some .int => some (.inr (.inl (.inl x)))
    | [.inl x], some .boolean => if x = 0 ∨ x = 1 then some (.inr (.inl (.inl x))) else none
    | _, _ => none
  | .lreturn => match st, mi_rt y with
    | [.inr (.inl x)], some .long => some (.inr (.inl (.inr (.inl x))))
    | _, _ => none
  | .return_ => match st, mi_rt y with
    | [], none => some (.inr (.inl (.inl 0)))
    | _, _ => none
  | _ => none
def mi_step (y pc : Nat) (ls : mLs) (st : List mV) (M : mM) : Option mO := match mi_at y pc with
  | some i => mi_do y pc ls st M i
  | none => none
/-- what a call leaves on the stack -/
def mi_push (z : Nat) (v : mV) (r : List mV) : Option (List mV) := match mi_rt z, v with
  | none, _ => some r
  | some .long, .inr (.inl x) => some (.inr (.inl x) :: r)
  | some .int, .inl x => some (.inl x :: r)
  | some .boolean, .inl x => some (.inl x :: r)
  | _, _ => none
/-- from a place, within n steps: the answer and the memory -/
def mi_exN : Nat → Nat → Nat → mLs → List mV → mM → Option (mV × mM)
  | 0, _, _, _, _, _ => none
  | n + 1, y, pc, ls, st, M => match mi_step y pc ls st M with
    | none => none
    | some (.inl (pc', ls', st', M')) => mi_exN n y pc' ls' st' M'
    | some (.inr (.inl v)) => some (v, M)
    | some (.inr (.inr (z, as, pc', ls', r))) => (mi_exN n z 0 (mi_ent 0 as) [] M).bind fun q => (mi_push z q.1 r).bind fun st' => mi_exN n y pc' ls' st' q.2
