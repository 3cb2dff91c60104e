/-! THE CONSTRUCTOR of the class -/
theorem Hw.join {D : va_G} {b : Nat} {es ys : List va_E} {x : va_E} {H H1 : Heap} (h : Hw D b (es ++ [x]) H) (h2 : Hw D (b + es.length) ys H1) (hk : ∀ q : Nat, q < b + es.length → H1[q]? = H[q]?) : Hw D b (es ++ ys) H1 := by
  refine ⟨by rw [h2.1, List.length_append, Nat.add_assoc], fun k y hy => ?_⟩
  by_cases hk2 : k < es.length
  · rw [List.getElem?_append_left hk2] at hy
    exact (h.2 k y (by rw [List.getElem?_append_left hk2]; exact hy)).kept (hk (b + k) (by omega))
  · rw [List.getElem?_append_right (by omega)] at hy
    have := h2.2 _ y hy
    rw [show b + es.length + (k - es.length) = b + k by omega] at this
    exact this
theorem Hw.last {D : va_G} {b : Nat} {es : List va_E} {x : va_E} {H : Heap} (h : Hw D b (es ++ [x]) H) : Hw D (b + es.length) [x] H := by
  refine ⟨by rw [h.1, List.length_append, Nat.add_assoc], fun k y hy => ?_⟩
  have h0 : k < 1 := (List.getElem?_eq_some_iff.mp hy).1
  rw [show k = 0 by omega] at hy ⊢
  cases hy
  exact h.2 es.length x (by simp)
theorem mi_gi {w0 : Cond} (h : w0 ∈ mi_gt) : GoodIn mi_gt (w0 :: mi_gt) := fun w hw => mi_gt_good w (by
  rcases List.mem_cons.mp hw with e | e
  · rw [e]; exact h
  · exact e)
theorem cc_blind {D : va_G} {cI cII cN : ClassId} {a : Nat} {x : List va_E} : FrameBlind (va_Pc [.ref a] (fun U => Hw D a x U.heap ∧ mi_KC D cI cII cN U)) := fun _ _ _ _ h => ⟨h.1, h.2.1, h.2.2.calling⟩
section CX
variable {p : Program} {l : Launch} {e : Env} {R : Room} {s : State} {m : MethodId} {args : Array Value} {below : List Frame} {meth : Method} {c : Code} {H : Heap} {locs : List Loc} {cells slots : Nat} {Q : State → Prop}
variable {cc : ByteArray} {pc : Nat} {ls : Array Slot} {rest : List Value} {D : va_G} {A : Nat → Prop} {cI cII cN : ClassId} {H0 : Heap} {b : Nat} {es : List va_E} {own : String} {index nL : Nat}
theorem hw_callN (hx : p.tables.exec = Jvm.exec) (hb : c.code = cc) (hml : c.maxLocals = nL) (hsz : ls.size = nL) (hts : ∀ w ∈ mi_gt, w.before args s = true) (hown : s.vm.findClass own = some m.cls) (KC : mi_KC D cI cII cN s) (hw : Hw D b (es ++ [.inr (0, mi_bl 0)]) H) (hS : va_S A H0 H locs) (hA : ∀ q, b ≤ q → A q) (hlk : (Cond.methodLink own index yi0).before args s = true) (hcells : cells + 27 ≤ R.cells) (hslots : slots + 207 ≤ R.slots) (hfr : 2 ≤ R.frames) (hlo : 40 ≤ R.locals) (hroom : (rest.map fun v => v.category).sum ≤ 8) (hdg : decode cc pc = .ok (.invokespecial index, 3))
    (kk : ∀ (H1 : Heap) (locs1 : List Loc), Hw D b (es ++ ee_0 cI cII cN (b + es.length)) H1 → va_S A H0 H1 locs1 → W p l e R s m args below meth c H1 locs1 (cells + 27) (slots + 207) Q (F0 m (pc + 3) ls rest)) : W p l e R s m args below meth c H locs cells slots Q (F0 m pc ls (.ref (b + es.length) :: rest)) := by
  refine va_callv (va_runI (As := []) (rest := rest) (Ts := mi_gt) ⟨hx, hb, hml, hown, hts⟩ (cc_0 l D cI cII cN (b + es.length)) (cwI 0 hts (mi_gi (mi_iwn 38 rfl)) rfl rfl rfl (hts _ (mi_iwn 35 rfl)) hlk (hts _ (mi_iwn 37 rfl)) rfl (by decide +kernel) ⟨hfr, hlo⟩) ⟨cc_blind, fun U hU hW => ⟨rfl, by rw [hU]; exact hw.last, KC.moved hW⟩⟩ rfl rfl hsz rfl (lv_room hroom) hdg ⟨hcells, hslots⟩) hS (fun q _ h => hA q (Nat.le_trans (Nat.le_add_right _ _) h)) (fun q h => hA q (Nat.le_trans (Nat.le_add_right _ _) h)) (fun u t H1 locs1 ht _ _ hB _ hk1 hS1 => ?_)
  have hB2 : Hw D (b + es.length) (ee_0 cI cII cN (b + es.length)) t.heap := hB
  rw [ht] at hB2
  have hH : H.size = b + es.length + 1 := by rw [hw.1, List.length_append, Nat.add_assoc]; rfl
  exact kk H1 locs1 (hw.join hB2 (fun q hq => hk1 q (by omega) (by omega))) hS1
theorem hw_callS (hx : p.tables.exec = Jvm.exec) (hb : c.code = cc) (hml : c.maxLocals = nL) (hsz : ls.size = nL) (hts : ∀ w ∈ mi_gt, w.before args s = true) (hown : s.vm.findClass RX2 = some m.cls) (KC : mi_KC D cI cII cN s) (hw : Hw D b (es ++ [.inr (1, mi_bl 1)]) H) (hS : va_S A H0 H locs) (hA : ∀ q, b ≤ q → A q) (hcells : cells + 42 ≤ R.cells) (hslots : slots + 320 ≤ R.slots) (hfr : 2 ≤ R.frames) (hlo : 40 ≤ R.locals) (hroom : (rest.map fun v => v.category).sum ≤ 8) (hdg : decode cc pc = .ok (.invokespecial 29, 3))
    (kk : ∀ (H1 : Heap) (locs1 : List Loc), Hw D b (es ++ ee_1 cI cII cN (b + es.length)) H1 → va_S A H0 H1 locs1 → W p l e R s m args below meth c H1 locs1 (cells + 42) (slots + 320) Q (F0 m (pc + 3) ls rest)) : W p l e R s m args below meth c H locs cells slots Q (F0 m pc ls (.ref (b + es.length) :: rest)) := by
  refine va_callv (va_runIN (As := []) (rest := rest) (Ts := mi_gt) (host := "SlipStore") ⟨hx, hb, hml, hown, hts⟩ (cc_1 l D cI cII cN (b + es.length)) ⟨va_cnB 0 hts (mi_gi (mi_iwn 43 rfl)) rfl rfl rfl KC.2.2.2 (hts _ (mi_iwn 41 rfl)) (by decide +kernel) ⟨hfr, hlo⟩, rfl, hts _ (mi_iwn 42 rfl)⟩ ⟨cc_blind, fun U hU hW => ⟨rfl, by rw [hU]; exact hw.last, KC.moved hW⟩⟩ rfl rfl hsz rfl (lv_room hroom) hdg ⟨hcells, hslots⟩) hS (fun q _ h => hA q (Nat.le_trans (Nat.le_add_right _ _) h)) (fun q h => hA q (Nat.le_trans (Nat.le_add_right _ _) h)) (fun u t H1 locs1 ht _ _ hB _ hk1 hS1 => ?_)
  have hB2 : Hw D (b + es.length) (ee_1 cI cII cN (b + es.length)) t.heap := hB
  rw [ht] at hB2
  have hH : H.size = b + es.length + 1 := by rw [hw.1, List.length_append, Nat.add_assoc]; rfl
  exact kk H1 locs1 (hw.join hB2 (fun q hq => hk1 q (by omega) (by omega))) hS1
end CX
theorem set_mid (P T : List va_E) (x y : va_E) : (P ++ x :: T).set P.length y = P ++ y :: T := by
  induction P with
  | nil => rfl
  | cons z P ih => show z :: (P ++ x :: T).set P.length y = _; rw [ih]; rfl
def x2_o (a : Nat) : va_E := .inr (2, [.ref (a + 1), .ref (a + 29), .ref (a + 57), .int 0, .ref (a + 58), .int 0, .int 0, .int 0])
def x2_p (cI cII cN : ClassId) (a : Nat) : List va_E := x2_o a :: (ee_0 cI cII cN (a + 1) ++ ee_0 cI cII cN (a + 29))
def x2_s (cN : ClassId) (a i : Nat) : va_E := .inl (cN, 5, .inr (.inr (.inr (.inr fun j => if j < i then some (a + 101 + 28 * j) else none))))
def x2_n (cI cII cN : ClassId) (a : Nat) : Nat → List va_E
  | 0 => []
  | i + 1 => x2_n cI cII cN a i ++ ee_0 cI cII cN (a + 101 + 28 * i)
def x2_e (cI cII cN : ClassId) (a i : Nat) : List va_E := x2_p cI cII cN a ++ x2_s cN a i :: (ee_1 cI cII cN (a + 58) ++ x2_n cI cII cN a i)
def ee_2 (cI cII cN : ClassId) (a : Nat) : List va_E := x2_e cI cII cN a 5
theorem x2_pl (cI cII cN : ClassId) (a : Nat) : (x2_p cI cII cN a).length = 57 := rfl
theorem x2_nl (cI cII cN : ClassId) (a : Nat) : ∀ i, (x2_n cI cII cN a i).length = 28 * i
  | 0 => rfl
  | i + 1 => by
    show (x2_n cI cII cN a i ++ ee_0 cI cII cN (a + 101 + 28 * i)).length = _
    rw [List.length_append, x2_nl cI cII cN a i, show (ee_0 cI cII cN (a + 101 + 28 * i)).length = 28 from rfl]
    omega
theorem x2_el (cI cII cN : ClassId) (a i : Nat) : (x2_e cI cII cN a i).length = 101 + 28 * i := by
  unfold x2_e
  rw [List.length_append, x2_pl, List.length_cons, List.length_append, x2_nl, show (ee_1 cI cII cN (a + 58)).length = 43 from rfl]
  omega
theorem x2_next (cI cII cN : ClassId) (a i : Nat) : (x2_e cI cII cN a i ++ ee_0 cI cII cN (a + 101 + 28 * i)).set 57 (x2_s cN a (i + 1)) = x2_e cI cII cN a (i + 1) := by
  unfold x2_e
  rw [List.append_assoc, List.cons_append, List.append_assoc]
  exact set_mid (x2_p cI cII cN a) _ _ _
theorem x2_at (cI cII cN : ClassId) (a i : Nat) (E : List va_E) : (x2_e cI cII cN a i ++ E)[57]? = some (x2_s cN a i) := by
  unfold x2_e
  rw [List.append_assoc, List.getElem?_append_right (by rw [x2_pl]; exact Nat.le_refl 57), x2_pl]
  rfl
set_option maxHeartbeats 4000000 in
set_option maxRecDepth 100000 in
theorem cc_2 (l : Launch) (D : va_G) (cI cII cN : ClassId) (a : Nat) : Met l yi2 (.code yi2 ci2 2 none :: mi_gt) { frames := 2, cells := 240, slots := 1835, locals := 60 } (va_Pc [.ref a] (fun U => Hw D a [.inr (2, mi_bl 2)] U.heap ∧ mi_KC D cI cII cN U)) (va_Qv (fun _ : Unit => True) (fun _ t => Hw D a (ee_2 cI cII cN a) t.heap) (fun q => a ≤ q)) 240 1835 (fun q => a ≤ q) := by
  refine Met.ofW (cc := ci2) (maxL := 2) (ret := none) (by decide) rfl ?_
  intro p e s m args below meth c s₁ B hml hv
  obtain ⟨rfl, hw, KC⟩ := hv
  have hK := KC.1
  have hx := B.exec
  have hb := B.bytes
  have hr := B.returns
  have hts0 := atoms_spec (ws := .code yi2 ci2 2 none :: mi_gt) B.pre
  have hts : ∀ w ∈ mi_gt, w.before ([.ref a] : List Value).toArray s = true := fun w hw => hts0 w (List.mem_cons_of_mem _ hw)
  have hown : s.vm.findClass RX2 = some m.cls := findClass_of_methodNamed B.named
  have hlocks := B.notSynchronized
  have hin : meth.name = "<init>" := (name_of_methodNamed B.named B.method).1
  have hS : va_S (fun q => a ≤ q) s.heap s.heap [] := va_S.rf
  have hl := lv_entry ([.ref a]) (n := 2) (Nat.le_of_ble_eq_true rfl)
  rw [lg_entry_eq]
  generalize (lg_sl ([.ref a]) ++ List.replicate (2 - (lg_sl ([.ref a])).length) Slot.unset).toArray = ls at hl ⊢
  have hl : lv_has ls 2 [(0, .ref a)] := hl
  -- the loop over the states
  have loop : ∀ (k i : Nat) (ls : Array Slot) (H : Heap) (locs : List Loc), i + k = 5 → lv_has ls 2 [(0, .ref a), (1, .int (nI i))] → Hw D a (x2_e cI cII cN a i) H → va_S (fun q => a ≤ q) s.heap H locs → W p l e (headSpec (.code yi2 ci2 2 none :: mi_gt) { frames := 2, cells := 240, slots := 1835, locals := 60 }).room s m ([.ref a] : List Value).toArray below meth c H locs (100 + 28 * i) (760 + 215 * i) (MQ below (va_Qv (fun _ : Unit => True) (fun _ t => Hw D a (ee_2 cI cII cN a) t.heap) (fun q => a ≤ q)) ([.ref a] : List Value).toArray s 240 1835 (fun q => a ≤ q)) (F0 m 67 ls []) := by
    intro k
    induction k with
    | zero =>
      intro i ls H locs hi hl hw hS
      have hi5 : i = 5 := by omega
      subst hi5
      refine lv_iload_n hx hb di2_67 rfl (lv_at hl 1 rfl) ?_
      refine lv_iconst (v := 5) hx hb di2_68 (by decide) ?_
      refine lv_icmp_ge (tgt := 91) hx hb di2_69 rfl (fun _ => ?_) (fun z => absurd (show (5 : Int32) ≤ nI 5 by decide) z)
      exact W.vret hx hb hr (fun t ht hW => ⟨⟨(), rfl, trivial, by show Hw D a (ee_2 cI cII cN a) t.heap; rw [ht]; exact hw⟩, hS.F ht⟩) hS.2.2 di2_91
    | succ k ih =>
      intro i ls H locs hi hl hw hS
      have hlen := x2_el cI cII cN a i
      refine lv_iload_n hx hb di2_67 rfl (lv_at hl 1 rfl) ?_
      refine lv_iconst (v := 5) hx hb di2_68 (by decide) ?_
      refine lv_icmp_ge (tgt := 91) hx hb di2_69 rfl (fun z => absurd z (show ¬ (5 : Int32) ≤ nI i from nI_ge (b := 5) (by omega) (by decide))) (fun _ => ?_)
      refine lv_aload_n hx hb di2_72 rfl (lv_at hl 0 rfl) ?_
      refine hw_get (ci := 2) (i := 0) (fs := [.ref (a + 1), .ref (a + 29), .ref (a + 57), .int 0, .ref (a + 58), .int 0, .int 0, .int 0]) hx hb hts hown rfl hK hw rfl 2 (by decide) (hts _ (mi_iwn 46 rfl)) rfl di2_73 ?_
      refine lv_iload_n hx hb di2_76 rfl (lv_at hl 1 rfl) ?_
      refine hw_new (ci := 0) hx hb hts hown rfl (hts _ (mi_iwn 33 rfl)) (hts _ (mi_iwn 34 rfl)) (hts _ (mi_iwn 35 rfl)) hK hw hS (show 100 + 28 * i + 1 ≤ 240 by omega) (show 760 + 215 * i + 8 ≤ 1835 by omega) di2_77 (fun H1 hw hS => ?_)
      refine lv_dup hx hb di2_80 rfl ?_
      refine hw_callN (own := RX2) hx hb hml hl.1 hts hown KC hw hS (fun _ h => h) (hts _ (mi_iwn 36 rfl)) (show 100 + 28 * i + 1 + 27 ≤ 240 by omega) (show 760 + 215 * i + 8 + 207 ≤ 1835 by omega) (Nat.le_of_ble_eq_true rfl) (Nat.le_of_ble_eq_true rfl) (Nat.le_of_ble_eq_true rfl) di2_81 (fun H2 locs2 hw hS => ?_)
      rw [hlen, show a + (101 + 28 * i) = a + 101 + 28 * i by omega] at hw
      rw [hlen]
      refine hw_astq (i := 57) (v := 101 + 28 * i) (n := 5) (f := fun j => if j < i then some (a + 101 + 28 * j) else none) hx hb hK hw hS (Nat.le_add_right _ _) (x2_at cI cII cN a i _) (vs := [.ref (a + 101 + 28 * i + 1), .ref (a + 101 + 28 * i + 8), .ref (a + 101 + 28 * i + 19), .int 0, .int 0, .int 0, .ref (a + 101 + 28 * i + 20), .ref (a + 101 + 28 * i + 27)]) (by rw [List.getElem?_append_right (by omega), hlen, Nat.sub_self]; rfl) (by unfold vp_in; exact nI_in (by omega) (by decide)) di2_84 (fun H3 locs3 hw hS => ?_)
      have est : (.inl (cN, 5, .inr (.inr (.inr (.inr (va_up (fun j => if j < i then some (a + 101 + 28 * j) else none) (nI i).toNatClampNeg (some (a + (101 + 28 * i)))))))) : va_E) = x2_s cN a (i + 1) := by
        unfold x2_s
        refine congrArg (fun z => (.inl (cN, 5, .inr (.inr (.inr (.inr z)))) : va_E)) (funext fun j => ?_)
        rw [nI_clp i (by omega)]
        unfold va_up
        by_cases hj : j = i
        · rw [if_pos hj, if_pos (by omega), hj, show a + (101 + 28 * i) = a + 101 + 28 * i by omega]
        · rw [if_neg hj]
          show (if j < i then some (a + 101 + 28 * j) else none) = _
          by_cases hj2 : j < i
          · rw [if_pos hj2, if_pos (by omega)]
          · rw [if_neg hj2, if_neg (by omega)]
      rw [est, x2_next] at hw
      refine lv_iinc (k := 1) (v := nI (i + 1)) (lv' := [(1, .int (nI (i + 1))), (0, .ref a)]) hx hb di2_85 hl rfl (nI_1 i) (by decide) rfl (fun ls2 hl2 => ?_)
      refine lv_goto (tgt := 67) hx hb di2_88 rfl ?_
      have := ih (i + 1) ls2 H3 locs3 (by omega) (lv_sub hl2 [1, 0] rfl) hw hS
      rw [show 100 + 28 * (i + 1) = 100 + 28 * i + 1 + 27 by omega, show 760 + 215 * (i + 1) = 760 + 215 * i + 8 + 207 by omega] at this
      exact this
  have hw : Hw D a [.inr (2, [.null, .null, .null, .int 0, .null, .int 0, .int 0, .int 0])] s.heap := hw
  refine lv_aload_n hx hb di2_0 rfl (lv_at hl 0 rfl) ?_
  refine W.objInit hx hb hown (hts _ (mi_iwn 32 rfl)) (hts _ (mi_iwn 1 rfl)) (hts _ (mi_iwn 2 rfl)) rfl (by rw [hml]; exact hl.1) rfl di2_1 (Nat.le_of_ble_eq_true rfl) (Nat.le_of_ble_eq_true rfl) ?_
  refine W.eq (g2 := F0 m 4 ls []) rfl ?_
  refine lv_aload_n hx hb di2_4 rfl (lv_at hl 0 rfl) ?_
  refine hw_new (ci := 0) hx hb hts hown rfl (hts _ (mi_iwn 33 rfl)) (hts _ (mi_iwn 34 rfl)) (hts _ (mi_iwn 35 rfl)) hK hw hS (Nat.le_of_ble_eq_true rfl) (Nat.le_of_ble_eq_true rfl) di2_5 (fun H1 hw hS => ?_)
  refine lv_dup hx hb di2_8 rfl ?_
  refine hw_callN (own := RX2) hx hb hml hl.1 hts hown KC hw hS (fun _ h => h) (hts _ (mi_iwn 36 rfl)) (Nat.le_of_ble_eq_true rfl) (Nat.le_of_ble_eq_true rfl) (Nat.le_of_ble_eq_true rfl) (Nat.le_of_ble_eq_true rfl) (Nat.le_of_ble_eq_true rfl) di2_9 (fun H2 locs2 hw hS => ?_)
  have hw : Hw D a (.inr (2, [.null, .null, .null, .int 0, .null, .int 0, .int 0, .int 0]) :: ee_0 cI cII cN (a + 1)) H2 := hw
  refine hw_put (ci := 2) (i := 0) hx hb hts hown hin rfl hK hw hS (Nat.le_refl _) rfl 0 (by decide) (Nat.le_of_ble_eq_true rfl) (hts _ (mi_iwn 44 rfl)) rfl rfl rfl di2_12 (fun H3 locs3 hw hS => ?_)
  have hw : Hw D a (.inr (2, [.ref (a + 1), .null, .null, .int 0, .null, .int 0, .int 0, .int 0]) :: ee_0 cI cII cN (a + 1)) H3 := hw
  refine lv_aload_n hx hb di2_15 rfl (lv_at hl 0 rfl) ?_
  refine hw_new (ci := 0) hx hb hts hown rfl (hts _ (mi_iwn 33 rfl)) (hts _ (mi_iwn 34 rfl)) (hts _ (mi_iwn 35 rfl)) hK hw hS (Nat.le_of_ble_eq_true rfl) (Nat.le_of_ble_eq_true rfl) di2_16 (fun H4 hw hS => ?_)
  refine lv_dup hx hb di2_19 rfl ?_
  refine hw_callN (own := RX2) hx hb hml hl.1 hts hown KC hw hS (fun _ h => h) (hts _ (mi_iwn 36 rfl)) (Nat.le_of_ble_eq_true rfl) (Nat.le_of_ble_eq_true rfl) (Nat.le_of_ble_eq_true rfl) (Nat.le_of_ble_eq_true rfl) (Nat.le_of_ble_eq_true rfl) di2_20 (fun H5 locs5 hw hS => ?_)
  have hw : Hw D a (.inr (2, [.ref (a + 1), .null, .null, .int 0, .null, .int 0, .int 0, .int 0]) :: (ee_0 cI cII cN (a + 1) ++ ee_0 cI cII cN (a + 29))) H5 := hw
  refine hw_put (ci := 2) (i := 0) hx hb hts hown hin rfl hK hw hS (Nat.le_refl _) rfl 1 (by decide) (Nat.le_of_ble_eq_true rfl) (hts _ (mi_iwn 45 rfl)) rfl rfl rfl di2_23 (fun H6 locs6 hw hS => ?_)
  have hw : Hw D a (.inr (2, [.ref (a + 1), .ref (a + 29), .null, .int 0, .null, .int 0, .int 0, .int 0]) :: (ee_0 cI cII cN (a + 1) ++ ee_0 cI cII cN (a + 29))) H6 := hw
  refine lv_aload_n hx hb di2_26 rfl (lv_at hl 0 rfl) ?_
  refine lv_iconst (v := 5) hx hb di2_27 (by decide) ?_
  refine hw_newq (N := 5) hx hb hown (hts _ (mi_iwn 33 rfl)) KC.2.2.1 hK hw hS (by decide) (by decide) (by decide) (Nat.le_of_ble_eq_true rfl) (Nat.le_of_ble_eq_true rfl) di2_28 (fun H7 hw hS => ?_)
  have hw : Hw D a (.inr (2, [.ref (a + 1), .ref (a + 29), .null, .int 0, .null, .int 0, .int 0, .int 0]) :: ((ee_0 cI cII cN (a + 1) ++ ee_0 cI cII cN (a + 29)) ++ [.inl (cN, 5, .inr (.inr (.inr (.inr fun _ => none))))])) H7 := hw
  refine hw_put (ci := 2) (i := 0) hx hb hts hown hin rfl hK hw hS (Nat.le_refl _) rfl 2 (by decide) (Nat.le_of_ble_eq_true rfl) (hts _ (mi_iwn 46 rfl)) rfl rfl rfl di2_31 (fun H8 locs8 hw hS => ?_)
  have hw : Hw D a (.inr (2, [.ref (a + 1), .ref (a + 29), .ref (a + 57), .int 0, .null, .int 0, .int 0, .int 0]) :: ((ee_0 cI cII cN (a + 1) ++ ee_0 cI cII cN (a + 29)) ++ [.inl (cN, 5, .inr (.inr (.inr (.inr fun _ => none))))])) H8 := hw
  refine lv_aload_n hx hb di2_34 rfl (lv_at hl 0 rfl) ?_
  refine lv_iconst (v := 0) hx hb di2_35 (by decide) ?_
  refine hw_put (ci := 2) (i := 0) hx hb hts hown hin rfl hK hw hS (Nat.le_refl _) rfl 3 (by decide) (Nat.le_of_ble_eq_true rfl) (hts _ (mi_iwn 47 rfl)) rfl rfl rfl di2_36 (fun H9 locs9 hw hS => ?_)
  have hw : Hw D a (.inr (2, [.ref (a + 1), .ref (a + 29), .ref (a + 57), .int 0, .null, .int 0, .int 0, .int 0]) :: ((ee_0 cI cII cN (a + 1) ++ ee_0 cI cII cN (a + 29)) ++ [.inl (cN, 5, .inr (.inr (.inr (.inr fun _ => none))))])) H9 := hw
  refine lv_aload_n hx hb di2_39 rfl (lv_at hl 0 rfl) ?_
  refine hw_new (ci := 1) hx hb hts hown rfl (hts _ (mi_iwn 39 rfl)) (hts _ (mi_iwn 40 rfl)) (hts _ (mi_iwn 41 rfl)) hK hw hS (Nat.le_of_ble_eq_true rfl) (Nat.le_of_ble_eq_true rfl) di2_40 (fun H10 hw hS => ?_)
  refine lv_dup hx hb di2_43 rfl ?_
  refine hw_callS hx hb hml hl.1 hts hown KC hw hS (fun _ h => h) (Nat.le_of_ble_eq_true rfl) (Nat.le_of_ble_eq_true rfl) (Nat.le_of_ble_eq_true rfl) (Nat.le_of_ble_eq_true rfl) (Nat.le_of_ble_eq_true rfl) di2_44 (fun H11 locs11 hw hS => ?_)
  have hw : Hw D a (.inr (2, [.ref (a + 1), .ref (a + 29), .ref (a + 57), .int 0, .null, .int 0, .int 0, .int 0]) :: (((ee_0 cI cII cN (a + 1) ++ ee_0 cI cII cN (a + 29)) ++ [.inl (cN, 5, .inr (.inr (.inr (.inr fun _ => none))))]) ++ ee_1 cI cII cN (a + 58))) H11 := hw
  refine hw_put (ci := 2) (i := 0) hx hb hts hown hin rfl hK hw hS (Nat.le_refl _) rfl 4 (by decide) (Nat.le_of_ble_eq_true rfl) (hts _ (mi_iwn 48 rfl)) rfl rfl rfl di2_47 (fun H12 locs12 hw hS => ?_)
  have hw : Hw D a (.inr (2, [.ref (a + 1), .ref (a + 29), .ref (a + 57), .int 0, .ref (a + 58), .int 0, .int 0, .int 0]) :: (((ee_0 cI cII cN (a + 1) ++ ee_0 cI cII cN (a + 29)) ++ [.inl (cN, 5, .inr (.inr (.inr (.inr fun _ => none))))]) ++ ee_1 cI cII cN (a + 58))) H12 := hw
  refine lv_aload_n hx hb di2_50 rfl (lv_at hl 0 rfl) ?_
  refine lv_iconst (v := 0) hx hb di2_51 (by decide) ?_
  refine hw_put (ci := 2) (i := 0) hx hb hts hown hin rfl hK hw hS (Nat.le_refl _) rfl 5 (by decide) (Nat.le_of_ble_eq_true rfl) (hts _ (mi_iwn 49 rfl)) rfl rfl rfl di2_52 (fun H13 locs13 hw hS => ?_)
  have hw : Hw D a (.inr (2, [.ref (a + 1), .ref (a + 29), .ref (a + 57), .int 0, .ref (a + 58), .int 0, .int 0, .int 0]) :: (((ee_0 cI cII cN (a + 1) ++ ee_0 cI cII cN (a + 29)) ++ [.inl (cN, 5, .inr (.inr (.inr (.inr fun _ => none))))]) ++ ee_1 cI cII cN (a + 58))) H13 := hw
  refine lv_aload_n hx hb di2_55 rfl (lv_at hl 0 rfl) ?_
  refine lv_iconst (v := 0) hx hb di2_56 (by decide) ?_
  refine hw_put (ci := 2) (i := 0) hx hb hts hown hin rfl hK hw hS (Nat.le_refl _) rfl 6 (by decide) (Nat.le_of_ble_eq_true rfl) (hts _ (mi_iwn 50 rfl)) rfl rfl rfl di2_57 (fun H14 locs14 hw hS => ?_)
  have hw : Hw D a (.inr (2, [.ref (a + 1), .ref (a + 29), .ref (a + 57), .int 0, .ref (a + 58), .int 0, .int 0, .int 0]) :: (((ee_0 cI cII cN (a + 1) ++ ee_0 cI cII cN (a + 29)) ++ [.inl (cN, 5, .inr (.inr (.inr (.inr fun _ => none))))]) ++ ee_1 cI cII cN (a + 58))) H14 := hw
  refine lv_aload_n hx hb di2_60 rfl (lv_at hl 0 rfl) ?_
  refine lv_iconst (v := 0) hx hb di2_61 (by decide) ?_
  refine hw_put (ci := 2) (i := 0) hx hb hts hown hin rfl hK hw hS (Nat.le_refl _) rfl 7 (by decide) (Nat.le_of_ble_eq_true rfl) (hts _ (mi_iwn 51 rfl)) rfl rfl rfl di2_62 (fun H15 locs15 hw hS => ?_)
  have hw : Hw D a (.inr (2, [.ref (a + 1), .ref (a + 29), .ref (a + 57), .int 0, .ref (a + 58), .int 0, .int 0, .int 0]) :: (((ee_0 cI cII cN (a + 1) ++ ee_0 cI cII cN (a + 29)) ++ [.inl (cN, 5, .inr (.inr (.inr (.inr fun _ => none))))]) ++ ee_1 cI cII cN (a + 58))) H15 := hw
  refine lv_iconst (v := 0) hx hb di2_65 (by decide) ?_
  refine lv_istore_n (lv' := [(1, .int (nI 0)), (0, .ref a)]) hx hb di2_66 rfl hl (by decide) rfl (fun ls2 hl2 => ?_)
  have e0 : x2_e cI cII cN a 0 = x2_o a :: (((ee_0 cI cII cN (a + 1) ++ ee_0 cI cII cN (a + 29)) ++ [.inl (cN, 5, .inr (.inr (.inr (.inr fun _ => none))))]) ++ ee_1 cI cII cN (a + 58)) := by
    have es0 : x2_s cN a 0 = .inl (cN, 5, .inr (.inr (.inr (.inr fun _ => none)))) := congrArg (fun z => (.inl (cN, 5, .inr (.inr (.inr (.inr z)))) : va_E)) (funext fun j => if_neg (Nat.not_lt_zero j))
    unfold x2_e
    rw [es0]
    show x2_o a :: (_ ++ _) = x2_o a :: _
    simp only [x2_n, List.append_nil, List.append_assoc, List.cons_append, List.nil_append]
  exact loop 5 0 ls2 _ _ (by omega) (lv_sub hl2 [1, 0] rfl) (by rw [e0]; exact hw) hS
