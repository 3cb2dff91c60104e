/-! THE CONSTRUCTORS of Net, Script and the model (printed by wip/whole/ctor.py) -/
set_option maxHeartbeats 4000000 in
set_option maxRecDepth 100000 in
theorem cc_0 (l : Launch) (D : va_G) (cI cII cN : ClassId) (a : Nat) : Met l yi0 (.code yi0 ci0 1 none :: mi_gt) { frames := 1, cells := 27, slots := 207, locals := 20 } (va_Pc [.ref a] (fun U => Hw D a [.inr (0, mi_bl 0)] U.heap ∧ mi_KC D cI cII cN U)) (va_Qv (fun _ : Unit => True) (fun _ t => Hw D a (ee_0 cI cII cN a) t.heap) (fun q => a ≤ q)) 27 207 (fun q => a ≤ q) := by
  refine Met.ofW (cc := ci0) (maxL := 1) (ret := none) (by decide) rfl ?_
  intro p e s m args below meth c s₁ B hml hv
  obtain ⟨rfl, hw, hK, hO, hO2, hNs⟩ := hv
  have hx := B.exec
  have hb := B.bytes
  have hr := B.returns
  have hts0 := atoms_spec (ws := .code yi0 ci0 1 none :: mi_gt) B.pre
  have hts : ∀ w ∈ mi_gt, w.before ([.ref a] : List Value).toArray s = true := fun w hw => hts0 w (List.mem_cons_of_mem _ hw)
  have hown : s.vm.findClass RX0 = some m.cls := findClass_of_methodNamed B.named
  have hlocks := B.notSynchronized
  have hin : meth.name = "<init>" := (name_of_methodNamed B.named B.method).1
  have hS : va_S (fun q => a ≤ q) s.heap s.heap [] := va_S.rf
  have hl := lv_entry ([.ref a]) (n := 1) (Nat.le_of_ble_eq_true rfl)
  rw [lg_entry_eq]
  generalize (lg_sl ([.ref a]) ++ List.replicate (1 - (lg_sl ([.ref a])).length) Slot.unset).toArray = ls at hl ⊢
  have hl : lv_has ls 1 [(0, .ref a)] := hl
  have hw : Hw D a [.inr (0, [.null, .null, .null, .int 0, .int 0, .int 0, .null, .null])] s.heap := hw
  refine lv_aload_n hx hb di0_0 rfl (lv_at hl 0 rfl) ?_
  refine W.objInit hx hb hown (hts _ (mi_iwn 0 rfl)) (hts _ (mi_iwn 1 rfl)) (hts _ (mi_iwn 2 rfl)) rfl (by rw [hml]; exact hl.1) rfl di0_1 (Nat.le_of_ble_eq_true rfl) (Nat.le_of_ble_eq_true rfl) ?_
  refine W.eq (g2 := F0 m 4 ls []) rfl ?_
  refine lv_aload_n hx hb di0_4 rfl (lv_at hl 0 rfl) ?_
  refine lv_bipush (v := 6) hx hb di0_5 (by decide) ?_
  refine lv_bipush (v := 8) hx hb di0_7 (by decide) ?_
  refine hw_mna (N := 6) (K := 8) hx hb hown (hts _ (mi_iwn 3 rfl)) hO (hts _ (mi_iwn 4 rfl)) hK hw hS (fun _ h => h) (by decide) (by decide) (by decide) (by decide) (by decide) (by decide) (Nat.le_of_ble_eq_true rfl) (Nat.le_of_ble_eq_true rfl) di0_9 (fun H1 locs1 hw hS => ?_)
  have hw : Hw D a [.inr (0, [.null, .null, .null, .int 0, .int 0, .int 0, .null, .null]), mi_out cII 6 (a + 1), .inl (cI, 8, .inl fun _ => 0), .inl (cI, 8, .inl fun _ => 0), .inl (cI, 8, .inl fun _ => 0), .inl (cI, 8, .inl fun _ => 0), .inl (cI, 8, .inl fun _ => 0), .inl (cI, 8, .inl fun _ => 0)] H1 := hw
  refine hw_put (ci := 0) (i := 0) hx hb hts hown hin rfl hK hw hS (Nat.le_refl _) rfl 0 (by decide) (Nat.le_of_ble_eq_true rfl) (hts _ (mi_iwn 5 rfl)) rfl rfl rfl di0_13 (fun H2 locs2 hw hS => ?_)
  have hw : Hw D a [.inr (0, [.ref (a + 1), .null, .null, .int 0, .int 0, .int 0, .null, .null]), mi_out cII 6 (a + 1), .inl (cI, 8, .inl fun _ => 0), .inl (cI, 8, .inl fun _ => 0), .inl (cI, 8, .inl fun _ => 0), .inl (cI, 8, .inl fun _ => 0), .inl (cI, 8, .inl fun _ => 0), .inl (cI, 8, .inl fun _ => 0)] H2 := hw
  refine lv_aload_n hx hb di0_16 rfl (lv_at hl 0 rfl) ?_
  refine lv_bipush (v := 10) hx hb di0_17 (by decide) ?_
  refine lv_bipush (v := 10) hx hb di0_19 (by decide) ?_
  refine hw_mna (N := 10) (K := 10) hx hb hown (hts _ (mi_iwn 3 rfl)) hO (hts _ (mi_iwn 4 rfl)) hK hw hS (fun _ h => h) (by decide) (by decide) (by decide) (by decide) (by decide) (by decide) (Nat.le_of_ble_eq_true rfl) (Nat.le_of_ble_eq_true rfl) di0_21 (fun H3 locs3 hw hS => ?_)
  have hw : Hw D a [.inr (0, [.ref (a + 1), .null, .null, .int 0, .int 0, .int 0, .null, .null]), mi_out cII 6 (a + 1), .inl (cI, 8, .inl fun _ => 0), .inl (cI, 8, .inl fun _ => 0), .inl (cI, 8, .inl fun _ => 0), .inl (cI, 8, .inl fun _ => 0), .inl (cI, 8, .inl fun _ => 0), .inl (cI, 8, .inl fun _ => 0), mi_out cII 10 (a + 8), .inl (cI, 10, .inl fun _ => 0), .inl (cI, 10, .inl fun _ => 0), .inl (cI, 10, .inl fun _ => 0), .inl (cI, 10, .inl fun _ => 0), .inl (cI, 10, .inl fun _ => 0), .inl (cI, 10, .inl fun _ => 0), .inl (cI, 10, .inl fun _ => 0), .inl (cI, 10, .inl fun _ => 0), .inl (cI, 10, .inl fun _ => 0), .inl (cI, 10, .inl fun _ => 0)] H3 := hw
  refine hw_put (ci := 0) (i := 0) hx hb hts hown hin rfl hK hw hS (Nat.le_refl _) rfl 1 (by decide) (Nat.le_of_ble_eq_true rfl) (hts _ (mi_iwn 6 rfl)) rfl rfl rfl di0_25 (fun H4 locs4 hw hS => ?_)
  have hw : Hw D a [.inr (0, [.ref (a + 1), .ref (a + 8), .null, .int 0, .int 0, .int 0, .null, .null]), mi_out cII 6 (a + 1), .inl (cI, 8, .inl fun _ => 0), .inl (cI, 8, .inl fun _ => 0), .inl (cI, 8, .inl fun _ => 0), .inl (cI, 8, .inl fun _ => 0), .inl (cI, 8, .inl fun _ => 0), .inl (cI, 8, .inl fun _ => 0), mi_out cII 10 (a + 8), .inl (cI, 10, .inl fun _ => 0), .inl (cI, 10, .inl fun _ => 0), .inl (cI, 10, .inl fun _ => 0), .inl (cI, 10, .inl fun _ => 0), .inl (cI, 10, .inl fun _ => 0), .inl (cI, 10, .inl fun _ => 0), .inl (cI, 10, .inl fun _ => 0), .inl (cI, 10, .inl fun _ => 0), .inl (cI, 10, .inl fun _ => 0), .inl (cI, 10, .inl fun _ => 0)] H4 := hw
  refine lv_aload_n hx hb di0_28 rfl (lv_at hl 0 rfl) ?_
  refine lv_iconst (v := 3) hx hb di0_29 (by decide) ?_
  refine hw_newa (N := 3) hx hb (hts _ (mi_iwn 4 rfl)) hK hw hS (by decide) (by decide) (by decide) (Nat.le_of_ble_eq_true rfl) (Nat.le_of_ble_eq_true rfl) di0_30 (fun H5 hw hS => ?_)
  have hw : Hw D a [.inr (0, [.ref (a + 1), .ref (a + 8), .null, .int 0, .int 0, .int 0, .null, .null]), mi_out cII 6 (a + 1), .inl (cI, 8, .inl fun _ => 0), .inl (cI, 8, .inl fun _ => 0), .inl (cI, 8, .inl fun _ => 0), .inl (cI, 8, .inl fun _ => 0), .inl (cI, 8, .inl fun _ => 0), .inl (cI, 8, .inl fun _ => 0), mi_out cII 10 (a + 8), .inl (cI, 10, .inl fun _ => 0), .inl (cI, 10, .inl fun _ => 0), .inl (cI, 10, .inl fun _ => 0), .inl (cI, 10, .inl fun _ => 0), .inl (cI, 10, .inl fun _ => 0), .inl (cI, 10, .inl fun _ => 0), .inl (cI, 10, .inl fun _ => 0), .inl (cI, 10, .inl fun _ => 0), .inl (cI, 10, .inl fun _ => 0), .inl (cI, 10, .inl fun _ => 0), .inl (cI, 3, .inl fun _ => 0)] H5 := hw
  refine hw_put (ci := 0) (i := 0) hx hb hts hown hin rfl hK hw hS (Nat.le_refl _) rfl 2 (by decide) (Nat.le_of_ble_eq_true rfl) (hts _ (mi_iwn 7 rfl)) rfl rfl rfl di0_32 (fun H6 locs6 hw hS => ?_)
  have hw : Hw D a [.inr (0, [.ref (a + 1), .ref (a + 8), .ref (a + 19), .int 0, .int 0, .int 0, .null, .null]), mi_out cII 6 (a + 1), .inl (cI, 8, .inl fun _ => 0), .inl (cI, 8, .inl fun _ => 0), .inl (cI, 8, .inl fun _ => 0), .inl (cI, 8, .inl fun _ => 0), .inl (cI, 8, .inl fun _ => 0), .inl (cI, 8, .inl fun _ => 0), mi_out cII 10 (a + 8), .inl (cI, 10, .inl fun _ => 0), .inl (cI, 10, .inl fun _ => 0), .inl (cI, 10, .inl fun _ => 0), .inl (cI, 10, .inl fun _ => 0), .inl (cI, 10, .inl fun _ => 0), .inl (cI, 10, .inl fun _ => 0), .inl (cI, 10, .inl fun _ => 0), .inl (cI, 10, .inl fun _ => 0), .inl (cI, 10, .inl fun _ => 0), .inl (cI, 10, .inl fun _ => 0), .inl (cI, 3, .inl fun _ => 0)] H6 := hw
  refine lv_aload_n hx hb di0_35 rfl (lv_at hl 0 rfl) ?_
  refine lv_iconst (v := 0) hx hb di0_36 (by decide) ?_
  refine hw_put (ci := 0) (i := 0) hx hb hts hown hin rfl hK hw hS (Nat.le_refl _) rfl 3 (by decide) (Nat.le_of_ble_eq_true rfl) (hts _ (mi_iwn 8 rfl)) rfl rfl rfl di0_37 (fun H7 locs7 hw hS => ?_)
  have hw : Hw D a [.inr (0, [.ref (a + 1), .ref (a + 8), .ref (a + 19), .int 0, .int 0, .int 0, .null, .null]), mi_out cII 6 (a + 1), .inl (cI, 8, .inl fun _ => 0), .inl (cI, 8, .inl fun _ => 0), .inl (cI, 8, .inl fun _ => 0), .inl (cI, 8, .inl fun _ => 0), .inl (cI, 8, .inl fun _ => 0), .inl (cI, 8, .inl fun _ => 0), mi_out cII 10 (a + 8), .inl (cI, 10, .inl fun _ => 0), .inl (cI, 10, .inl fun _ => 0), .inl (cI, 10, .inl fun _ => 0), .inl (cI, 10, .inl fun _ => 0), .inl (cI, 10, .inl fun _ => 0), .inl (cI, 10, .inl fun _ => 0), .inl (cI, 10, .inl fun _ => 0), .inl (cI, 10, .inl fun _ => 0), .inl (cI, 10, .inl fun _ => 0), .inl (cI, 10, .inl fun _ => 0), .inl (cI, 3, .inl fun _ => 0)] H7 := hw
  refine lv_aload_n hx hb di0_40 rfl (lv_at hl 0 rfl) ?_
  refine lv_iconst (v := 0) hx hb di0_41 (by decide) ?_
  refine hw_put (ci := 0) (i := 0) hx hb hts hown hin rfl hK hw hS (Nat.le_refl _) rfl 4 (by decide) (Nat.le_of_ble_eq_true rfl) (hts _ (mi_iwn 9 rfl)) rfl rfl rfl di0_42 (fun H8 locs8 hw hS => ?_)
  have hw : Hw D a [.inr (0, [.ref (a + 1), .ref (a + 8), .ref (a + 19), .int 0, .int 0, .int 0, .null, .null]), mi_out cII 6 (a + 1), .inl (cI, 8, .inl fun _ => 0), .inl (cI, 8, .inl fun _ => 0), .inl (cI, 8, .inl fun _ => 0), .inl (cI, 8, .inl fun _ => 0), .inl (cI, 8, .inl fun _ => 0), .inl (cI, 8, .inl fun _ => 0), mi_out cII 10 (a + 8), .inl (cI, 10, .inl fun _ => 0), .inl (cI, 10, .inl fun _ => 0), .inl (cI, 10, .inl fun _ => 0), .inl (cI, 10, .inl fun _ => 0), .inl (cI, 10, .inl fun _ => 0), .inl (cI, 10, .inl fun _ => 0), .inl (cI, 10, .inl fun _ => 0), .inl (cI, 10, .inl fun _ => 0), .inl (cI, 10, .inl fun _ => 0), .inl (cI, 10, .inl fun _ => 0), .inl (cI, 3, .inl fun _ => 0)] H8 := hw
  refine lv_aload_n hx hb di0_45 rfl (lv_at hl 0 rfl) ?_
  refine lv_iconst (v := 0) hx hb di0_46 (by decide) ?_
  refine hw_put (ci := 0) (i := 0) hx hb hts hown hin rfl hK hw hS (Nat.le_refl _) rfl 5 (by decide) (Nat.le_of_ble_eq_true rfl) (hts _ (mi_iwn 10 rfl)) rfl rfl rfl di0_47 (fun H9 locs9 hw hS => ?_)
  have hw : Hw D a [.inr (0, [.ref (a + 1), .ref (a + 8), .ref (a + 19), .int 0, .int 0, .int 0, .null, .null]), mi_out cII 6 (a + 1), .inl (cI, 8, .inl fun _ => 0), .inl (cI, 8, .inl fun _ => 0), .inl (cI, 8, .inl fun _ => 0), .inl (cI, 8, .inl fun _ => 0), .inl (cI, 8, .inl fun _ => 0), .inl (cI, 8, .inl fun _ => 0), mi_out cII 10 (a + 8), .inl (cI, 10, .inl fun _ => 0), .inl (cI, 10, .inl fun _ => 0), .inl (cI, 10, .inl fun _ => 0), .inl (cI, 10, .inl fun _ => 0), .inl (cI, 10, .inl fun _ => 0), .inl (cI, 10, .inl fun _ => 0), .inl (cI, 10, .inl fun _ => 0), .inl (cI, 10, .inl fun _ => 0), .inl (cI, 10, .inl fun _ => 0), .inl (cI, 10, .inl fun _ => 0), .inl (cI, 3, .inl fun _ => 0)] H9 := hw
  refine lv_aload_n hx hb di0_50 rfl (lv_at hl 0 rfl) ?_
  refine lv_bipush (v := 6) hx hb di0_51 (by decide) ?_
  refine lv_iconst (v := 4) hx hb di0_53 (by decide) ?_
  refine hw_mna (N := 6) (K := 4) hx hb hown (hts _ (mi_iwn 3 rfl)) hO (hts _ (mi_iwn 4 rfl)) hK hw hS (fun _ h => h) (by decide) (by decide) (by decide) (by decide) (by decide) (by decide) (Nat.le_of_ble_eq_true rfl) (Nat.le_of_ble_eq_true rfl) di0_54 (fun H10 locs10 hw hS => ?_)
  have hw : Hw D a [.inr (0, [.ref (a + 1), .ref (a + 8), .ref (a + 19), .int 0, .int 0, .int 0, .null, .null]), mi_out cII 6 (a + 1), .inl (cI, 8, .inl fun _ => 0), .inl (cI, 8, .inl fun _ => 0), .inl (cI, 8, .inl fun _ => 0), .inl (cI, 8, .inl fun _ => 0), .inl (cI, 8, .inl fun _ => 0), .inl (cI, 8, .inl fun _ => 0), mi_out cII 10 (a + 8), .inl (cI, 10, .inl fun _ => 0), .inl (cI, 10, .inl fun _ => 0), .inl (cI, 10, .inl fun _ => 0), .inl (cI, 10, .inl fun _ => 0), .inl (cI, 10, .inl fun _ => 0), .inl (cI, 10, .inl fun _ => 0), .inl (cI, 10, .inl fun _ => 0), .inl (cI, 10, .inl fun _ => 0), .inl (cI, 10, .inl fun _ => 0), .inl (cI, 10, .inl fun _ => 0), .inl (cI, 3, .inl fun _ => 0), mi_out cII 6 (a + 20), .inl (cI, 4, .inl fun _ => 0), .inl (cI, 4, .inl fun _ => 0), .inl (cI, 4, .inl fun _ => 0), .inl (cI, 4, .inl fun _ => 0), .inl (cI, 4, .inl fun _ => 0), .inl (cI, 4, .inl fun _ => 0)] H10 := hw
  refine hw_put (ci := 0) (i := 0) hx hb hts hown hin rfl hK hw hS (Nat.le_refl _) rfl 6 (by decide) (Nat.le_of_ble_eq_true rfl) (hts _ (mi_iwn 11 rfl)) rfl rfl rfl di0_58 (fun H11 locs11 hw hS => ?_)
  have hw : Hw D a [.inr (0, [.ref (a + 1), .ref (a + 8), .ref (a + 19), .int 0, .int 0, .int 0, .ref (a + 20), .null]), mi_out cII 6 (a + 1), .inl (cI, 8, .inl fun _ => 0), .inl (cI, 8, .inl fun _ => 0), .inl (cI, 8, .inl fun _ => 0), .inl (cI, 8, .inl fun _ => 0), .inl (cI, 8, .inl fun _ => 0), .inl (cI, 8, .inl fun _ => 0), mi_out cII 10 (a + 8), .inl (cI, 10, .inl fun _ => 0), .inl (cI, 10, .inl fun _ => 0), .inl (cI, 10, .inl fun _ => 0), .inl (cI, 10, .inl fun _ => 0), .inl (cI, 10, .inl fun _ => 0), .inl (cI, 10, .inl fun _ => 0), .inl (cI, 10, .inl fun _ => 0), .inl (cI, 10, .inl fun _ => 0), .inl (cI, 10, .inl fun _ => 0), .inl (cI, 10, .inl fun _ => 0), .inl (cI, 3, .inl fun _ => 0), mi_out cII 6 (a + 20), .inl (cI, 4, .inl fun _ => 0), .inl (cI, 4, .inl fun _ => 0), .inl (cI, 4, .inl fun _ => 0), .inl (cI, 4, .inl fun _ => 0), .inl (cI, 4, .inl fun _ => 0), .inl (cI, 4, .inl fun _ => 0)] H11 := hw
  refine lv_aload_n hx hb di0_61 rfl (lv_at hl 0 rfl) ?_
  refine lv_bipush (v := 10) hx hb di0_62 (by decide) ?_
  refine hw_newa (N := 10) hx hb (hts _ (mi_iwn 4 rfl)) hK hw hS (by decide) (by decide) (by decide) (Nat.le_of_ble_eq_true rfl) (Nat.le_of_ble_eq_true rfl) di0_64 (fun H12 hw hS => ?_)
  have hw : Hw D a [.inr (0, [.ref (a + 1), .ref (a + 8), .ref (a + 19), .int 0, .int 0, .int 0, .ref (a + 20), .null]), mi_out cII 6 (a + 1), .inl (cI, 8, .inl fun _ => 0), .inl (cI, 8, .inl fun _ => 0), .inl (cI, 8, .inl fun _ => 0), .inl (cI, 8, .inl fun _ => 0), .inl (cI, 8, .inl fun _ => 0), .inl (cI, 8, .inl fun _ => 0), mi_out cII 10 (a + 8), .inl (cI, 10, .inl fun _ => 0), .inl (cI, 10, .inl fun _ => 0), .inl (cI, 10, .inl fun _ => 0), .inl (cI, 10, .inl fun _ => 0), .inl (cI, 10, .inl fun _ => 0), .inl (cI, 10, .inl fun _ => 0), .inl (cI, 10, .inl fun _ => 0), .inl (cI, 10, .inl fun _ => 0), .inl (cI, 10, .inl fun _ => 0), .inl (cI, 10, .inl fun _ => 0), .inl (cI, 3, .inl fun _ => 0), mi_out cII 6 (a + 20), .inl (cI, 4, .inl fun _ => 0), .inl (cI, 4, .inl fun _ => 0), .inl (cI, 4, .inl fun _ => 0), .inl (cI, 4, .inl fun _ => 0), .inl (cI, 4, .inl fun _ => 0), .inl (cI, 4, .inl fun _ => 0), .inl (cI, 10, .inl fun _ => 0)] H12 := hw
  refine hw_put (ci := 0) (i := 0) hx hb hts hown hin rfl hK hw hS (Nat.le_refl _) rfl 7 (by decide) (Nat.le_of_ble_eq_true rfl) (hts _ (mi_iwn 12 rfl)) rfl rfl rfl di0_66 (fun H13 locs13 hw hS => ?_)
  have hw : Hw D a [.inr (0, [.ref (a + 1), .ref (a + 8), .ref (a + 19), .int 0, .int 0, .int 0, .ref (a + 20), .ref (a + 27)]), mi_out cII 6 (a + 1), .inl (cI, 8, .inl fun _ => 0), .inl (cI, 8, .inl fun _ => 0), .inl (cI, 8, .inl fun _ => 0), .inl (cI, 8, .inl fun _ => 0), .inl (cI, 8, .inl fun _ => 0), .inl (cI, 8, .inl fun _ => 0), mi_out cII 10 (a + 8), .inl (cI, 10, .inl fun _ => 0), .inl (cI, 10, .inl fun _ => 0), .inl (cI, 10, .inl fun _ => 0), .inl (cI, 10, .inl fun _ => 0), .inl (cI, 10, .inl fun _ => 0), .inl (cI, 10, .inl fun _ => 0), .inl (cI, 10, .inl fun _ => 0), .inl (cI, 10, .inl fun _ => 0), .inl (cI, 10, .inl fun _ => 0), .inl (cI, 10, .inl fun _ => 0), .inl (cI, 3, .inl fun _ => 0), mi_out cII 6 (a + 20), .inl (cI, 4, .inl fun _ => 0), .inl (cI, 4, .inl fun _ => 0), .inl (cI, 4, .inl fun _ => 0), .inl (cI, 4, .inl fun _ => 0), .inl (cI, 4, .inl fun _ => 0), .inl (cI, 4, .inl fun _ => 0), .inl (cI, 10, .inl fun _ => 0)] H13 := hw
  refine lv_aload_n hx hb di0_69 rfl (lv_at hl 0 rfl) ?_
  refine hw_get (ci := 0) (i := 0) hx hb hts hown rfl hK hw rfl 2 (by decide) (hts _ (mi_iwn 7 rfl)) rfl di0_70 ?_
  refine lv_iconst (v := 0) hx hb di0_73 (by decide) ?_
  refine lv_bipush (v := 16) hx hb di0_74 (by decide) ?_
  refine hw_iast (i := 19) hx hb hK hw hS (Nat.le_add_right _ _) rfl (by unfold vp_in; decide) di0_76 (fun H14 locs14 hw hS => ?_)
  have hw : Hw D a [.inr (0, [.ref (a + 1), .ref (a + 8), .ref (a + 19), .int 0, .int 0, .int 0, .ref (a + 20), .ref (a + 27)]), mi_out cII 6 (a + 1), .inl (cI, 8, .inl fun _ => 0), .inl (cI, 8, .inl fun _ => 0), .inl (cI, 8, .inl fun _ => 0), .inl (cI, 8, .inl fun _ => 0), .inl (cI, 8, .inl fun _ => 0), .inl (cI, 8, .inl fun _ => 0), mi_out cII 10 (a + 8), .inl (cI, 10, .inl fun _ => 0), .inl (cI, 10, .inl fun _ => 0), .inl (cI, 10, .inl fun _ => 0), .inl (cI, 10, .inl fun _ => 0), .inl (cI, 10, .inl fun _ => 0), .inl (cI, 10, .inl fun _ => 0), .inl (cI, 10, .inl fun _ => 0), .inl (cI, 10, .inl fun _ => 0), .inl (cI, 10, .inl fun _ => 0), .inl (cI, 10, .inl fun _ => 0), .inl (cI, 3, .inl (upd (fun _ => 0) 0 16)), mi_out cII 6 (a + 20), .inl (cI, 4, .inl fun _ => 0), .inl (cI, 4, .inl fun _ => 0), .inl (cI, 4, .inl fun _ => 0), .inl (cI, 4, .inl fun _ => 0), .inl (cI, 4, .inl fun _ => 0), .inl (cI, 4, .inl fun _ => 0), .inl (cI, 10, .inl fun _ => 0)] H14 := hw
  refine lv_aload_n hx hb di0_77 rfl (lv_at hl 0 rfl) ?_
  refine hw_get (ci := 0) (i := 0) hx hb hts hown rfl hK hw rfl 2 (by decide) (hts _ (mi_iwn 7 rfl)) rfl di0_78 ?_
  refine lv_iconst (v := 1) hx hb di0_81 (by decide) ?_
  refine lv_bipush (v := 8) hx hb di0_82 (by decide) ?_
  refine hw_iast (i := 19) hx hb hK hw hS (Nat.le_add_right _ _) rfl (by unfold vp_in; decide) di0_84 (fun H15 locs15 hw hS => ?_)
  have hw : Hw D a [.inr (0, [.ref (a + 1), .ref (a + 8), .ref (a + 19), .int 0, .int 0, .int 0, .ref (a + 20), .ref (a + 27)]), mi_out cII 6 (a + 1), .inl (cI, 8, .inl fun _ => 0), .inl (cI, 8, .inl fun _ => 0), .inl (cI, 8, .inl fun _ => 0), .inl (cI, 8, .inl fun _ => 0), .inl (cI, 8, .inl fun _ => 0), .inl (cI, 8, .inl fun _ => 0), mi_out cII 10 (a + 8), .inl (cI, 10, .inl fun _ => 0), .inl (cI, 10, .inl fun _ => 0), .inl (cI, 10, .inl fun _ => 0), .inl (cI, 10, .inl fun _ => 0), .inl (cI, 10, .inl fun _ => 0), .inl (cI, 10, .inl fun _ => 0), .inl (cI, 10, .inl fun _ => 0), .inl (cI, 10, .inl fun _ => 0), .inl (cI, 10, .inl fun _ => 0), .inl (cI, 10, .inl fun _ => 0), .inl (cI, 3, .inl (upd ((upd (fun _ => 0) 0 16)) 1 8)), mi_out cII 6 (a + 20), .inl (cI, 4, .inl fun _ => 0), .inl (cI, 4, .inl fun _ => 0), .inl (cI, 4, .inl fun _ => 0), .inl (cI, 4, .inl fun _ => 0), .inl (cI, 4, .inl fun _ => 0), .inl (cI, 4, .inl fun _ => 0), .inl (cI, 10, .inl fun _ => 0)] H15 := hw
  refine lv_aload_n hx hb di0_85 rfl (lv_at hl 0 rfl) ?_
  refine hw_get (ci := 0) (i := 0) hx hb hts hown rfl hK hw rfl 2 (by decide) (hts _ (mi_iwn 7 rfl)) rfl di0_86 ?_
  refine lv_iconst (v := 2) hx hb di0_89 (by decide) ?_
  refine lv_iconst (v := 5) hx hb di0_90 (by decide) ?_
  refine hw_iast (i := 19) hx hb hK hw hS (Nat.le_add_right _ _) rfl (by unfold vp_in; decide) di0_91 (fun H16 locs16 hw hS => ?_)
  have hw : Hw D a [.inr (0, [.ref (a + 1), .ref (a + 8), .ref (a + 19), .int 0, .int 0, .int 0, .ref (a + 20), .ref (a + 27)]), mi_out cII 6 (a + 1), .inl (cI, 8, .inl fun _ => 0), .inl (cI, 8, .inl fun _ => 0), .inl (cI, 8, .inl fun _ => 0), .inl (cI, 8, .inl fun _ => 0), .inl (cI, 8, .inl fun _ => 0), .inl (cI, 8, .inl fun _ => 0), mi_out cII 10 (a + 8), .inl (cI, 10, .inl fun _ => 0), .inl (cI, 10, .inl fun _ => 0), .inl (cI, 10, .inl fun _ => 0), .inl (cI, 10, .inl fun _ => 0), .inl (cI, 10, .inl fun _ => 0), .inl (cI, 10, .inl fun _ => 0), .inl (cI, 10, .inl fun _ => 0), .inl (cI, 10, .inl fun _ => 0), .inl (cI, 10, .inl fun _ => 0), .inl (cI, 10, .inl fun _ => 0), .inl (cI, 3, .inl (upd ((upd ((upd (fun _ => 0) 0 16)) 1 8)) 2 5)), mi_out cII 6 (a + 20), .inl (cI, 4, .inl fun _ => 0), .inl (cI, 4, .inl fun _ => 0), .inl (cI, 4, .inl fun _ => 0), .inl (cI, 4, .inl fun _ => 0), .inl (cI, 4, .inl fun _ => 0), .inl (cI, 4, .inl fun _ => 0), .inl (cI, 10, .inl fun _ => 0)] H16 := hw
  exact W.vret hx hb hr (fun t ht hW => ⟨⟨(), rfl, trivial, by show Hw D a (ee_0 cI cII cN a) t.heap; rw [ht]; exact hw⟩, hS.F ht⟩) hS.2.2 di0_92
set_option maxHeartbeats 4000000 in
set_option maxRecDepth 100000 in
theorem cc_1 (l : Launch) (D : va_G) (cI cII cN : ClassId) (a : Nat) : Met l yi1 (.code yi1 ci1 1 none :: mi_gt) { frames := 1, cells := 42, slots := 320, locals := 20 } (va_Pc [.ref a] (fun U => Hw D a [.inr (1, mi_bl 1)] U.heap ∧ mi_KC D cI cII cN U)) (va_Qv (fun _ : Unit => True) (fun _ t => Hw D a (ee_1 cI cII cN a) t.heap) (fun q => a ≤ q)) 42 320 (fun q => a ≤ q) := by
  refine Met.ofW (cc := ci1) (maxL := 1) (ret := none) (by decide) rfl ?_
  intro p e s m args below meth c s₁ B hml hv
  obtain ⟨rfl, hw, hK, hO, hO2, hNs⟩ := hv
  have hx := B.exec
  have hb := B.bytes
  have hr := B.returns
  have hts0 := atoms_spec (ws := .code yi1 ci1 1 none :: mi_gt) B.pre
  have hts : ∀ w ∈ mi_gt, w.before ([.ref a] : List Value).toArray s = true := fun w hw => hts0 w (List.mem_cons_of_mem _ hw)
  have hown : s.vm.findClass RX1 = some m.cls := findClass_of_methodNamed B.named
  have hlocks := B.notSynchronized
  have hin : meth.name = "<init>" := (name_of_methodNamed B.named B.method).1
  have hS : va_S (fun q => a ≤ q) s.heap s.heap [] := va_S.rf
  have hl := lv_entry ([.ref a]) (n := 1) (Nat.le_of_ble_eq_true rfl)
  rw [lg_entry_eq]
  generalize (lg_sl ([.ref a]) ++ List.replicate (1 - (lg_sl ([.ref a])).length) Slot.unset).toArray = ls at hl ⊢
  have hl : lv_has ls 1 [(0, .ref a)] := hl
  have hw : Hw D a [.inr (1, [.int 0, .int 0, .int 0, .null, .null])] s.heap := hw
  refine lv_aload_n hx hb di1_0 rfl (lv_at hl 0 rfl) ?_
  refine W.objInit hx hb hown (hts _ (mi_iwn 13 rfl)) (hts _ (mi_iwn 1 rfl)) (hts _ (mi_iwn 2 rfl)) rfl (by rw [hml]; exact hl.1) rfl di1_1 (Nat.le_of_ble_eq_true rfl) (Nat.le_of_ble_eq_true rfl) ?_
  refine W.eq (g2 := F0 m 4 ls []) rfl ?_
  refine lv_aload_n hx hb di1_4 rfl (lv_at hl 0 rfl) ?_
  refine lv_iconst (v := 0) hx hb di1_5 (by decide) ?_
  refine hw_put (ci := 1) (i := 0) hx hb hts hown hin rfl hK hw hS (Nat.le_refl _) rfl 0 (by decide) (Nat.le_of_ble_eq_true rfl) (hts _ (mi_iwn 14 rfl)) rfl rfl rfl di1_6 (fun H1 locs1 hw hS => ?_)
  have hw : Hw D a [.inr (1, [.int 0, .int 0, .int 0, .null, .null])] H1 := hw
  refine lv_aload_n hx hb di1_9 rfl (lv_at hl 0 rfl) ?_
  refine lv_iconst (v := 0) hx hb di1_10 (by decide) ?_
  refine hw_put (ci := 1) (i := 0) hx hb hts hown hin rfl hK hw hS (Nat.le_refl _) rfl 1 (by decide) (Nat.le_of_ble_eq_true rfl) (hts _ (mi_iwn 15 rfl)) rfl rfl rfl di1_11 (fun H2 locs2 hw hS => ?_)
  have hw : Hw D a [.inr (1, [.int 0, .int 0, .int 0, .null, .null])] H2 := hw
  refine lv_aload_n hx hb di1_14 rfl (lv_at hl 0 rfl) ?_
  refine lv_iconst (v := 0) hx hb di1_15 (by decide) ?_
  refine hw_put (ci := 1) (i := 0) hx hb hts hown hin rfl hK hw hS (Nat.le_refl _) rfl 2 (by decide) (Nat.le_of_ble_eq_true rfl) (hts _ (mi_iwn 16 rfl)) rfl rfl rfl di1_16 (fun H3 locs3 hw hS => ?_)
  have hw : Hw D a [.inr (1, [.int 0, .int 0, .int 0, .null, .null])] H3 := hw
  refine lv_aload_n hx hb di1_19 rfl (lv_at hl 0 rfl) ?_
  refine lv_bipush (v := 40) hx hb di1_20 (by decide) ?_
  refine lv_iconst (v := 4) hx hb di1_22 (by decide) ?_
  refine hw_mna (N := 40) (K := 4) hx hb hown (hts _ (mi_iwn 17 rfl)) hO (hts _ (mi_iwn 4 rfl)) hK hw hS (fun _ h => h) (by decide) (by decide) (by decide) (by decide) (by decide) (by decide) (Nat.le_of_ble_eq_true rfl) (Nat.le_of_ble_eq_true rfl) di1_23 (fun H4 locs4 hw hS => ?_)
  have hw : Hw D a [.inr (1, [.int 0, .int 0, .int 0, .null, .null]), mi_out cII 40 (a + 1), .inl (cI, 4, .inl fun _ => 0), .inl (cI, 4, .inl fun _ => 0), .inl (cI, 4, .inl fun _ => 0), .inl (cI, 4, .inl fun _ => 0), .inl (cI, 4, .inl fun _ => 0), .inl (cI, 4, .inl fun _ => 0), .inl (cI, 4, .inl fun _ => 0), .inl (cI, 4, .inl fun _ => 0), .inl (cI, 4, .inl fun _ => 0), .inl (cI, 4, .inl fun _ => 0), .inl (cI, 4, .inl fun _ => 0), .inl (cI, 4, .inl fun _ => 0), .inl (cI, 4, .inl fun _ => 0), .inl (cI, 4, .inl fun _ => 0), .inl (cI, 4, .inl fun _ => 0), .inl (cI, 4, .inl fun _ => 0), .inl (cI, 4, .inl fun _ => 0), .inl (cI, 4, .inl fun _ => 0), .inl (cI, 4, .inl fun _ => 0), .inl (cI, 4, .inl fun _ => 0), .inl (cI, 4, .inl fun _ => 0), .inl (cI, 4, .inl fun _ => 0), .inl (cI, 4, .inl fun _ => 0), .inl (cI, 4, .inl fun _ => 0), .inl (cI, 4, .inl fun _ => 0), .inl (cI, 4, .inl fun _ => 0), .inl (cI, 4, .inl fun _ => 0), .inl (cI, 4, .inl fun _ => 0), .inl (cI, 4, .inl fun _ => 0), .inl (cI, 4, .inl fun _ => 0), .inl (cI, 4, .inl fun _ => 0), .inl (cI, 4, .inl fun _ => 0), .inl (cI, 4, .inl fun _ => 0), .inl (cI, 4, .inl fun _ => 0), .inl (cI, 4, .inl fun _ => 0), .inl (cI, 4, .inl fun _ => 0), .inl (cI, 4, .inl fun _ => 0), .inl (cI, 4, .inl fun _ => 0), .inl (cI, 4, .inl fun _ => 0), .inl (cI, 4, .inl fun _ => 0)] H4 := hw
  refine hw_put (ci := 1) (i := 0) hx hb hts hown hin rfl hK hw hS (Nat.le_refl _) rfl 3 (by decide) (Nat.le_of_ble_eq_true rfl) (hts _ (mi_iwn 18 rfl)) rfl rfl rfl di1_27 (fun H5 locs5 hw hS => ?_)
  have hw : Hw D a [.inr (1, [.int 0, .int 0, .int 0, .ref (a + 1), .null]), mi_out cII 40 (a + 1), .inl (cI, 4, .inl fun _ => 0), .inl (cI, 4, .inl fun _ => 0), .inl (cI, 4, .inl fun _ => 0), .inl (cI, 4, .inl fun _ => 0), .inl (cI, 4, .inl fun _ => 0), .inl (cI, 4, .inl fun _ => 0), .inl (cI, 4, .inl fun _ => 0), .inl (cI, 4, .inl fun _ => 0), .inl (cI, 4, .inl fun _ => 0), .inl (cI, 4, .inl fun _ => 0), .inl (cI, 4, .inl fun _ => 0), .inl (cI, 4, .inl fun _ => 0), .inl (cI, 4, .inl fun _ => 0), .inl (cI, 4, .inl fun _ => 0), .inl (cI, 4, .inl fun _ => 0), .inl (cI, 4, .inl fun _ => 0), .inl (cI, 4, .inl fun _ => 0), .inl (cI, 4, .inl fun _ => 0), .inl (cI, 4, .inl fun _ => 0), .inl (cI, 4, .inl fun _ => 0), .inl (cI, 4, .inl fun _ => 0), .inl (cI, 4, .inl fun _ => 0), .inl (cI, 4, .inl fun _ => 0), .inl (cI, 4, .inl fun _ => 0), .inl (cI, 4, .inl fun _ => 0), .inl (cI, 4, .inl fun _ => 0), .inl (cI, 4, .inl fun _ => 0), .inl (cI, 4, .inl fun _ => 0), .inl (cI, 4, .inl fun _ => 0), .inl (cI, 4, .inl fun _ => 0), .inl (cI, 4, .inl fun _ => 0), .inl (cI, 4, .inl fun _ => 0), .inl (cI, 4, .inl fun _ => 0), .inl (cI, 4, .inl fun _ => 0), .inl (cI, 4, .inl fun _ => 0), .inl (cI, 4, .inl fun _ => 0), .inl (cI, 4, .inl fun _ => 0), .inl (cI, 4, .inl fun _ => 0), .inl (cI, 4, .inl fun _ => 0), .inl (cI, 4, .inl fun _ => 0)] H5 := hw
  refine lv_aload_n hx hb di1_30 rfl (lv_at hl 0 rfl) ?_
  refine lv_bipush (v := 120) hx hb di1_31 (by decide) ?_
  refine hw_newa (N := 120) hx hb (hts _ (mi_iwn 4 rfl)) hK hw hS (by decide) (by decide) (by decide) (Nat.le_of_ble_eq_true rfl) (Nat.le_of_ble_eq_true rfl) di1_33 (fun H6 hw hS => ?_)
  have hw : Hw D a [.inr (1, [.int 0, .int 0, .int 0, .ref (a + 1), .null]), mi_out cII 40 (a + 1), .inl (cI, 4, .inl fun _ => 0), .inl (cI, 4, .inl fun _ => 0), .inl (cI, 4, .inl fun _ => 0), .inl (cI, 4, .inl fun _ => 0), .inl (cI, 4, .inl fun _ => 0), .inl (cI, 4, .inl fun _ => 0), .inl (cI, 4, .inl fun _ => 0), .inl (cI, 4, .inl fun _ => 0), .inl (cI, 4, .inl fun _ => 0), .inl (cI, 4, .inl fun _ => 0), .inl (cI, 4, .inl fun _ => 0), .inl (cI, 4, .inl fun _ => 0), .inl (cI, 4, .inl fun _ => 0), .inl (cI, 4, .inl fun _ => 0), .inl (cI, 4, .inl fun _ => 0), .inl (cI, 4, .inl fun _ => 0), .inl (cI, 4, .inl fun _ => 0), .inl (cI, 4, .inl fun _ => 0), .inl (cI, 4, .inl fun _ => 0), .inl (cI, 4, .inl fun _ => 0), .inl (cI, 4, .inl fun _ => 0), .inl (cI, 4, .inl fun _ => 0), .inl (cI, 4, .inl fun _ => 0), .inl (cI, 4, .inl fun _ => 0), .inl (cI, 4, .inl fun _ => 0), .inl (cI, 4, .inl fun _ => 0), .inl (cI, 4, .inl fun _ => 0), .inl (cI, 4, .inl fun _ => 0), .inl (cI, 4, .inl fun _ => 0), .inl (cI, 4, .inl fun _ => 0), .inl (cI, 4, .inl fun _ => 0), .inl (cI, 4, .inl fun _ => 0), .inl (cI, 4, .inl fun _ => 0), .inl (cI, 4, .inl fun _ => 0), .inl (cI, 4, .inl fun _ => 0), .inl (cI, 4, .inl fun _ => 0), .inl (cI, 4, .inl fun _ => 0), .inl (cI, 4, .inl fun _ => 0), .inl (cI, 4, .inl fun _ => 0), .inl (cI, 4, .inl fun _ => 0), .inl (cI, 120, .inl fun _ => 0)] H6 := hw
  refine hw_put (ci := 1) (i := 0) hx hb hts hown hin rfl hK hw hS (Nat.le_refl _) rfl 4 (by decide) (Nat.le_of_ble_eq_true rfl) (hts _ (mi_iwn 19 rfl)) rfl rfl rfl di1_35 (fun H7 locs7 hw hS => ?_)
  have hw : Hw D a [.inr (1, [.int 0, .int 0, .int 0, .ref (a + 1), .ref (a + 42)]), mi_out cII 40 (a + 1), .inl (cI, 4, .inl fun _ => 0), .inl (cI, 4, .inl fun _ => 0), .inl (cI, 4, .inl fun _ => 0), .inl (cI, 4, .inl fun _ => 0), .inl (cI, 4, .inl fun _ => 0), .inl (cI, 4, .inl fun _ => 0), .inl (cI, 4, .inl fun _ => 0), .inl (cI, 4, .inl fun _ => 0), .inl (cI, 4, .inl fun _ => 0), .inl (cI, 4, .inl fun _ => 0), .inl (cI, 4, .inl fun _ => 0), .inl (cI, 4, .inl fun _ => 0), .inl (cI, 4, .inl fun _ => 0), .inl (cI, 4, .inl fun _ => 0), .inl (cI, 4, .inl fun _ => 0), .inl (cI, 4, .inl fun _ => 0), .inl (cI, 4, .inl fun _ => 0), .inl (cI, 4, .inl fun _ => 0), .inl (cI, 4, .inl fun _ => 0), .inl (cI, 4, .inl fun _ => 0), .inl (cI, 4, .inl fun _ => 0), .inl (cI, 4, .inl fun _ => 0), .inl (cI, 4, .inl fun _ => 0), .inl (cI, 4, .inl fun _ => 0), .inl (cI, 4, .inl fun _ => 0), .inl (cI, 4, .inl fun _ => 0), .inl (cI, 4, .inl fun _ => 0), .inl (cI, 4, .inl fun _ => 0), .inl (cI, 4, .inl fun _ => 0), .inl (cI, 4, .inl fun _ => 0), .inl (cI, 4, .inl fun _ => 0), .inl (cI, 4, .inl fun _ => 0), .inl (cI, 4, .inl fun _ => 0), .inl (cI, 4, .inl fun _ => 0), .inl (cI, 4, .inl fun _ => 0), .inl (cI, 4, .inl fun _ => 0), .inl (cI, 4, .inl fun _ => 0), .inl (cI, 4, .inl fun _ => 0), .inl (cI, 4, .inl fun _ => 0), .inl (cI, 4, .inl fun _ => 0), .inl (cI, 120, .inl fun _ => 0)] H7 := hw
  exact W.vret hx hb hr (fun t ht hW => ⟨⟨(), rfl, trivial, by show Hw D a (ee_1 cI cII cN a) t.heap; rw [ht]; exact hw⟩, hS.F ht⟩) hS.2.2 di1_38
set_option maxHeartbeats 4000000 in
set_option maxRecDepth 100000 in
theorem cc_3 (l : Launch) (D : va_G) (cI cII cN : ClassId) (a : Nat) : Met l yi3 (.code yi3 ci3 1 none :: mi_gt) { frames := 1, cells := 11, slots := 1557, locals := 20 } (va_Pc [.ref a] (fun U => Hw D a [.inr (3, mi_bl 3)] U.heap ∧ mi_KC D cI cII cN U)) (va_Qv (fun _ : Unit => True) (fun _ t => Hw D a (ee_3 cI cII cN a) t.heap) (fun q => a ≤ q)) 11 1557 (fun q => a ≤ q) := by
  refine Met.ofW (cc := ci3) (maxL := 1) (ret := none) (by decide) rfl ?_
  intro p e s m args below meth c s₁ B hml hv
  obtain ⟨rfl, hw, hK, hO, hO2, hNs⟩ := hv
  have hx := B.exec
  have hb := B.bytes
  have hr := B.returns
  have hts0 := atoms_spec (ws := .code yi3 ci3 1 none :: mi_gt) B.pre
  have hts : ∀ w ∈ mi_gt, w.before ([.ref a] : List Value).toArray s = true := fun w hw => hts0 w (List.mem_cons_of_mem _ hw)
  have hown : s.vm.findClass RX3 = some m.cls := findClass_of_methodNamed B.named
  have hlocks := B.notSynchronized
  have hin : meth.name = "<init>" := (name_of_methodNamed B.named B.method).1
  have hS : va_S (fun q => a ≤ q) s.heap s.heap [] := va_S.rf
  have hl := lv_entry ([.ref a]) (n := 1) (Nat.le_of_ble_eq_true rfl)
  rw [lg_entry_eq]
  generalize (lg_sl ([.ref a]) ++ List.replicate (1 - (lg_sl ([.ref a])).length) Slot.unset).toArray = ls at hl ⊢
  have hl : lv_has ls 1 [(0, .ref a)] := hl
  have hw : Hw D a [.inr (3, [.null, .null, .null, .int 0, .null, .null, .null, .null, .int 0, .int 0, .null, .null, .int 0, .int 0, .int 0, .int 0, .null, .null, .long 0])] s.heap := hw
  refine lv_aload_n hx hb di3_0 rfl (lv_at hl 0 rfl) ?_
  refine W.objInit hx hb hown (hts _ (mi_iwn 20 rfl)) (hts _ (mi_iwn 1 rfl)) (hts _ (mi_iwn 2 rfl)) rfl (by rw [hml]; exact hl.1) rfl di3_1 (Nat.le_of_ble_eq_true rfl) (Nat.le_of_ble_eq_true rfl) ?_
  refine W.eq (g2 := F0 m 4 ls []) rfl ?_
  refine lv_aload_n hx hb di3_4 rfl (lv_at hl 0 rfl) ?_
  refine lv_sipush (v := 154) hx hb di3_5 (by decide) ?_
  refine hw_newa (N := 154) hx hb (hts _ (mi_iwn 4 rfl)) hK hw hS (by decide) (by decide) (by decide) (Nat.le_of_ble_eq_true rfl) (Nat.le_of_ble_eq_true rfl) di3_8 (fun H1 hw hS => ?_)
  have hw : Hw D a [.inr (3, [.null, .null, .null, .int 0, .null, .null, .null, .null, .int 0, .int 0, .null, .null, .int 0, .int 0, .int 0, .int 0, .null, .null, .long 0]), .inl (cI, 154, .inl fun _ => 0)] H1 := hw
  refine hw_put (ci := 3) (i := 0) hx hb hts hown hin rfl hK hw hS (Nat.le_refl _) rfl 0 (by decide) (Nat.le_of_ble_eq_true rfl) (hts _ (mi_iwn 21 rfl)) rfl rfl rfl di3_10 (fun H2 locs2 hw hS => ?_)
  have hw : Hw D a [.inr (3, [.ref (a + 1), .null, .null, .int 0, .null, .null, .null, .null, .int 0, .int 0, .null, .null, .int 0, .int 0, .int 0, .int 0, .null, .null, .long 0]), .inl (cI, 154, .inl fun _ => 0)] H2 := hw
  refine lv_aload_n hx hb di3_13 rfl (lv_at hl 0 rfl) ?_
  refine lv_sipush (v := 154) hx hb di3_14 (by decide) ?_
  refine hw_newa (N := 154) hx hb (hts _ (mi_iwn 4 rfl)) hK hw hS (by decide) (by decide) (by decide) (Nat.le_of_ble_eq_true rfl) (Nat.le_of_ble_eq_true rfl) di3_17 (fun H3 hw hS => ?_)
  have hw : Hw D a [.inr (3, [.ref (a + 1), .null, .null, .int 0, .null, .null, .null, .null, .int 0, .int 0, .null, .null, .int 0, .int 0, .int 0, .int 0, .null, .null, .long 0]), .inl (cI, 154, .inl fun _ => 0), .inl (cI, 154, .inl fun _ => 0)] H3 := hw
  refine hw_put (ci := 3) (i := 0) hx hb hts hown hin rfl hK hw hS (Nat.le_refl _) rfl 1 (by decide) (Nat.le_of_ble_eq_true rfl) (hts _ (mi_iwn 22 rfl)) rfl rfl rfl di3_19 (fun H4 locs4 hw hS => ?_)
  have hw : Hw D a [.inr (3, [.ref (a + 1), .ref (a + 2), .null, .int 0, .null, .null, .null, .null, .int 0, .int 0, .null, .null, .int 0, .int 0, .int 0, .int 0, .null, .null, .long 0]), .inl (cI, 154, .inl fun _ => 0), .inl (cI, 154, .inl fun _ => 0)] H4 := hw
  refine lv_aload_n hx hb di3_22 rfl (lv_at hl 0 rfl) ?_
  refine lv_sipush (v := 770) hx hb di3_23 (by decide) ?_
  refine hw_newa (N := 770) hx hb (hts _ (mi_iwn 4 rfl)) hK hw hS (by decide) (by decide) (by decide) (Nat.le_of_ble_eq_true rfl) (Nat.le_of_ble_eq_true rfl) di3_26 (fun H5 hw hS => ?_)
  have hw : Hw D a [.inr (3, [.ref (a + 1), .ref (a + 2), .null, .int 0, .null, .null, .null, .null, .int 0, .int 0, .null, .null, .int 0, .int 0, .int 0, .int 0, .null, .null, .long 0]), .inl (cI, 154, .inl fun _ => 0), .inl (cI, 154, .inl fun _ => 0), .inl (cI, 770, .inl fun _ => 0)] H5 := hw
  refine hw_put (ci := 3) (i := 0) hx hb hts hown hin rfl hK hw hS (Nat.le_refl _) rfl 2 (by decide) (Nat.le_of_ble_eq_true rfl) (hts _ (mi_iwn 23 rfl)) rfl rfl rfl di3_28 (fun H6 locs6 hw hS => ?_)
  have hw : Hw D a [.inr (3, [.ref (a + 1), .ref (a + 2), .ref (a + 3), .int 0, .null, .null, .null, .null, .int 0, .int 0, .null, .null, .int 0, .int 0, .int 0, .int 0, .null, .null, .long 0]), .inl (cI, 154, .inl fun _ => 0), .inl (cI, 154, .inl fun _ => 0), .inl (cI, 770, .inl fun _ => 0)] H6 := hw
  refine lv_aload_n hx hb di3_31 rfl (lv_at hl 0 rfl) ?_
  refine lv_iconst (v := 3) hx hb di3_32 (by decide) ?_
  refine hw_newa (N := 3) hx hb (hts _ (mi_iwn 4 rfl)) hK hw hS (by decide) (by decide) (by decide) (Nat.le_of_ble_eq_true rfl) (Nat.le_of_ble_eq_true rfl) di3_33 (fun H7 hw hS => ?_)
  have hw : Hw D a [.inr (3, [.ref (a + 1), .ref (a + 2), .ref (a + 3), .int 0, .null, .null, .null, .null, .int 0, .int 0, .null, .null, .int 0, .int 0, .int 0, .int 0, .null, .null, .long 0]), .inl (cI, 154, .inl fun _ => 0), .inl (cI, 154, .inl fun _ => 0), .inl (cI, 770, .inl fun _ => 0), .inl (cI, 3, .inl fun _ => 0)] H7 := hw
  refine hw_put (ci := 3) (i := 0) hx hb hts hown hin rfl hK hw hS (Nat.le_refl _) rfl 4 (by decide) (Nat.le_of_ble_eq_true rfl) (hts _ (mi_iwn 24 rfl)) rfl rfl rfl di3_35 (fun H8 locs8 hw hS => ?_)
  have hw : Hw D a [.inr (3, [.ref (a + 1), .ref (a + 2), .ref (a + 3), .int 0, .ref (a + 4), .null, .null, .null, .int 0, .int 0, .null, .null, .int 0, .int 0, .int 0, .int 0, .null, .null, .long 0]), .inl (cI, 154, .inl fun _ => 0), .inl (cI, 154, .inl fun _ => 0), .inl (cI, 770, .inl fun _ => 0), .inl (cI, 3, .inl fun _ => 0)] H8 := hw
  refine lv_aload_n hx hb di3_38 rfl (lv_at hl 0 rfl) ?_
  refine lv_bipush (v := 6) hx hb di3_39 (by decide) ?_
  refine hw_newa (N := 6) hx hb (hts _ (mi_iwn 4 rfl)) hK hw hS (by decide) (by decide) (by decide) (Nat.le_of_ble_eq_true rfl) (Nat.le_of_ble_eq_true rfl) di3_41 (fun H9 hw hS => ?_)
  have hw : Hw D a [.inr (3, [.ref (a + 1), .ref (a + 2), .ref (a + 3), .int 0, .ref (a + 4), .null, .null, .null, .int 0, .int 0, .null, .null, .int 0, .int 0, .int 0, .int 0, .null, .null, .long 0]), .inl (cI, 154, .inl fun _ => 0), .inl (cI, 154, .inl fun _ => 0), .inl (cI, 770, .inl fun _ => 0), .inl (cI, 3, .inl fun _ => 0), .inl (cI, 6, .inl fun _ => 0)] H9 := hw
  refine hw_put (ci := 3) (i := 0) hx hb hts hown hin rfl hK hw hS (Nat.le_refl _) rfl 5 (by decide) (Nat.le_of_ble_eq_true rfl) (hts _ (mi_iwn 25 rfl)) rfl rfl rfl di3_43 (fun H10 locs10 hw hS => ?_)
  have hw : Hw D a [.inr (3, [.ref (a + 1), .ref (a + 2), .ref (a + 3), .int 0, .ref (a + 4), .ref (a + 5), .null, .null, .int 0, .int 0, .null, .null, .int 0, .int 0, .int 0, .int 0, .null, .null, .long 0]), .inl (cI, 154, .inl fun _ => 0), .inl (cI, 154, .inl fun _ => 0), .inl (cI, 770, .inl fun _ => 0), .inl (cI, 3, .inl fun _ => 0), .inl (cI, 6, .inl fun _ => 0)] H10 := hw
  refine lv_aload_n hx hb di3_46 rfl (lv_at hl 0 rfl) ?_
  refine lv_bipush (v := 30) hx hb di3_47 (by decide) ?_
  refine hw_newa (N := 30) hx hb (hts _ (mi_iwn 4 rfl)) hK hw hS (by decide) (by decide) (by decide) (Nat.le_of_ble_eq_true rfl) (Nat.le_of_ble_eq_true rfl) di3_49 (fun H11 hw hS => ?_)
  have hw : Hw D a [.inr (3, [.ref (a + 1), .ref (a + 2), .ref (a + 3), .int 0, .ref (a + 4), .ref (a + 5), .null, .null, .int 0, .int 0, .null, .null, .int 0, .int 0, .int 0, .int 0, .null, .null, .long 0]), .inl (cI, 154, .inl fun _ => 0), .inl (cI, 154, .inl fun _ => 0), .inl (cI, 770, .inl fun _ => 0), .inl (cI, 3, .inl fun _ => 0), .inl (cI, 6, .inl fun _ => 0), .inl (cI, 30, .inl fun _ => 0)] H11 := hw
  refine hw_put (ci := 3) (i := 0) hx hb hts hown hin rfl hK hw hS (Nat.le_refl _) rfl 6 (by decide) (Nat.le_of_ble_eq_true rfl) (hts _ (mi_iwn 26 rfl)) rfl rfl rfl di3_51 (fun H12 locs12 hw hS => ?_)
  have hw : Hw D a [.inr (3, [.ref (a + 1), .ref (a + 2), .ref (a + 3), .int 0, .ref (a + 4), .ref (a + 5), .ref (a + 6), .null, .int 0, .int 0, .null, .null, .int 0, .int 0, .int 0, .int 0, .null, .null, .long 0]), .inl (cI, 154, .inl fun _ => 0), .inl (cI, 154, .inl fun _ => 0), .inl (cI, 770, .inl fun _ => 0), .inl (cI, 3, .inl fun _ => 0), .inl (cI, 6, .inl fun _ => 0), .inl (cI, 30, .inl fun _ => 0)] H12 := hw
  refine lv_aload_n hx hb di3_54 rfl (lv_at hl 0 rfl) ?_
  refine lv_bipush (v := 6) hx hb di3_55 (by decide) ?_
  refine hw_newa (N := 6) hx hb (hts _ (mi_iwn 4 rfl)) hK hw hS (by decide) (by decide) (by decide) (Nat.le_of_ble_eq_true rfl) (Nat.le_of_ble_eq_true rfl) di3_57 (fun H13 hw hS => ?_)
  have hw : Hw D a [.inr (3, [.ref (a + 1), .ref (a + 2), .ref (a + 3), .int 0, .ref (a + 4), .ref (a + 5), .ref (a + 6), .null, .int 0, .int 0, .null, .null, .int 0, .int 0, .int 0, .int 0, .null, .null, .long 0]), .inl (cI, 154, .inl fun _ => 0), .inl (cI, 154, .inl fun _ => 0), .inl (cI, 770, .inl fun _ => 0), .inl (cI, 3, .inl fun _ => 0), .inl (cI, 6, .inl fun _ => 0), .inl (cI, 30, .inl fun _ => 0), .inl (cI, 6, .inl fun _ => 0)] H13 := hw
  refine hw_put (ci := 3) (i := 0) hx hb hts hown hin rfl hK hw hS (Nat.le_refl _) rfl 7 (by decide) (Nat.le_of_ble_eq_true rfl) (hts _ (mi_iwn 27 rfl)) rfl rfl rfl di3_59 (fun H14 locs14 hw hS => ?_)
  have hw : Hw D a [.inr (3, [.ref (a + 1), .ref (a + 2), .ref (a + 3), .int 0, .ref (a + 4), .ref (a + 5), .ref (a + 6), .ref (a + 7), .int 0, .int 0, .null, .null, .int 0, .int 0, .int 0, .int 0, .null, .null, .long 0]), .inl (cI, 154, .inl fun _ => 0), .inl (cI, 154, .inl fun _ => 0), .inl (cI, 770, .inl fun _ => 0), .inl (cI, 3, .inl fun _ => 0), .inl (cI, 6, .inl fun _ => 0), .inl (cI, 30, .inl fun _ => 0), .inl (cI, 6, .inl fun _ => 0)] H14 := hw
  refine lv_aload_n hx hb di3_62 rfl (lv_at hl 0 rfl) ?_
  refine lv_sipush (v := 154) hx hb di3_63 (by decide) ?_
  refine hw_newa (N := 154) hx hb (hts _ (mi_iwn 4 rfl)) hK hw hS (by decide) (by decide) (by decide) (Nat.le_of_ble_eq_true rfl) (Nat.le_of_ble_eq_true rfl) di3_66 (fun H15 hw hS => ?_)
  have hw : Hw D a [.inr (3, [.ref (a + 1), .ref (a + 2), .ref (a + 3), .int 0, .ref (a + 4), .ref (a + 5), .ref (a + 6), .ref (a + 7), .int 0, .int 0, .null, .null, .int 0, .int 0, .int 0, .int 0, .null, .null, .long 0]), .inl (cI, 154, .inl fun _ => 0), .inl (cI, 154, .inl fun _ => 0), .inl (cI, 770, .inl fun _ => 0), .inl (cI, 3, .inl fun _ => 0), .inl (cI, 6, .inl fun _ => 0), .inl (cI, 30, .inl fun _ => 0), .inl (cI, 6, .inl fun _ => 0), .inl (cI, 154, .inl fun _ => 0)] H15 := hw
  refine hw_put (ci := 3) (i := 0) hx hb hts hown hin rfl hK hw hS (Nat.le_refl _) rfl 10 (by decide) (Nat.le_of_ble_eq_true rfl) (hts _ (mi_iwn 28 rfl)) rfl rfl rfl di3_68 (fun H16 locs16 hw hS => ?_)
  have hw : Hw D a [.inr (3, [.ref (a + 1), .ref (a + 2), .ref (a + 3), .int 0, .ref (a + 4), .ref (a + 5), .ref (a + 6), .ref (a + 7), .int 0, .int 0, .ref (a + 8), .null, .int 0, .int 0, .int 0, .int 0, .null, .null, .long 0]), .inl (cI, 154, .inl fun _ => 0), .inl (cI, 154, .inl fun _ => 0), .inl (cI, 770, .inl fun _ => 0), .inl (cI, 3, .inl fun _ => 0), .inl (cI, 6, .inl fun _ => 0), .inl (cI, 30, .inl fun _ => 0), .inl (cI, 6, .inl fun _ => 0), .inl (cI, 154, .inl fun _ => 0)] H16 := hw
  refine lv_aload_n hx hb di3_71 rfl (lv_at hl 0 rfl) ?_
  refine lv_bipush (v := 120) hx hb di3_72 (by decide) ?_
  refine hw_newa (N := 120) hx hb (hts _ (mi_iwn 4 rfl)) hK hw hS (by decide) (by decide) (by decide) (Nat.le_of_ble_eq_true rfl) (Nat.le_of_ble_eq_true rfl) di3_74 (fun H17 hw hS => ?_)
  have hw : Hw D a [.inr (3, [.ref (a + 1), .ref (a + 2), .ref (a + 3), .int 0, .ref (a + 4), .ref (a + 5), .ref (a + 6), .ref (a + 7), .int 0, .int 0, .ref (a + 8), .null, .int 0, .int 0, .int 0, .int 0, .null, .null, .long 0]), .inl (cI, 154, .inl fun _ => 0), .inl (cI, 154, .inl fun _ => 0), .inl (cI, 770, .inl fun _ => 0), .inl (cI, 3, .inl fun _ => 0), .inl (cI, 6, .inl fun _ => 0), .inl (cI, 30, .inl fun _ => 0), .inl (cI, 6, .inl fun _ => 0), .inl (cI, 154, .inl fun _ => 0), .inl (cI, 120, .inl fun _ => 0)] H17 := hw
  refine hw_put (ci := 3) (i := 0) hx hb hts hown hin rfl hK hw hS (Nat.le_refl _) rfl 11 (by decide) (Nat.le_of_ble_eq_true rfl) (hts _ (mi_iwn 29 rfl)) rfl rfl rfl di3_76 (fun H18 locs18 hw hS => ?_)
  have hw : Hw D a [.inr (3, [.ref (a + 1), .ref (a + 2), .ref (a + 3), .int 0, .ref (a + 4), .ref (a + 5), .ref (a + 6), .ref (a + 7), .int 0, .int 0, .ref (a + 8), .ref (a + 9), .int 0, .int 0, .int 0, .int 0, .null, .null, .long 0]), .inl (cI, 154, .inl fun _ => 0), .inl (cI, 154, .inl fun _ => 0), .inl (cI, 770, .inl fun _ => 0), .inl (cI, 3, .inl fun _ => 0), .inl (cI, 6, .inl fun _ => 0), .inl (cI, 30, .inl fun _ => 0), .inl (cI, 6, .inl fun _ => 0), .inl (cI, 154, .inl fun _ => 0), .inl (cI, 120, .inl fun _ => 0)] H18 := hw
  refine lv_aload_n hx hb di3_79 rfl (lv_at hl 0 rfl) ?_
  refine lv_bipush (v := 40) hx hb di3_80 (by decide) ?_
  refine hw_newa (N := 40) hx hb (hts _ (mi_iwn 4 rfl)) hK hw hS (by decide) (by decide) (by decide) (Nat.le_of_ble_eq_true rfl) (Nat.le_of_ble_eq_true rfl) di3_82 (fun H19 hw hS => ?_)
  have hw : Hw D a [.inr (3, [.ref (a + 1), .ref (a + 2), .ref (a + 3), .int 0, .ref (a + 4), .ref (a + 5), .ref (a + 6), .ref (a + 7), .int 0, .int 0, .ref (a + 8), .ref (a + 9), .int 0, .int 0, .int 0, .int 0, .null, .null, .long 0]), .inl (cI, 154, .inl fun _ => 0), .inl (cI, 154, .inl fun _ => 0), .inl (cI, 770, .inl fun _ => 0), .inl (cI, 3, .inl fun _ => 0), .inl (cI, 6, .inl fun _ => 0), .inl (cI, 30, .inl fun _ => 0), .inl (cI, 6, .inl fun _ => 0), .inl (cI, 154, .inl fun _ => 0), .inl (cI, 120, .inl fun _ => 0), .inl (cI, 40, .inl fun _ => 0)] H19 := hw
  refine hw_put (ci := 3) (i := 0) hx hb hts hown hin rfl hK hw hS (Nat.le_refl _) rfl 16 (by decide) (Nat.le_of_ble_eq_true rfl) (hts _ (mi_iwn 30 rfl)) rfl rfl rfl di3_84 (fun H20 locs20 hw hS => ?_)
  have hw : Hw D a [.inr (3, [.ref (a + 1), .ref (a + 2), .ref (a + 3), .int 0, .ref (a + 4), .ref (a + 5), .ref (a + 6), .ref (a + 7), .int 0, .int 0, .ref (a + 8), .ref (a + 9), .int 0, .int 0, .int 0, .int 0, .ref (a + 10), .null, .long 0]), .inl (cI, 154, .inl fun _ => 0), .inl (cI, 154, .inl fun _ => 0), .inl (cI, 770, .inl fun _ => 0), .inl (cI, 3, .inl fun _ => 0), .inl (cI, 6, .inl fun _ => 0), .inl (cI, 30, .inl fun _ => 0), .inl (cI, 6, .inl fun _ => 0), .inl (cI, 154, .inl fun _ => 0), .inl (cI, 120, .inl fun _ => 0), .inl (cI, 40, .inl fun _ => 0)] H20 := hw
  refine lv_aload_n hx hb di3_87 rfl (lv_at hl 0 rfl) ?_
  refine lv_bipush (v := 120) hx hb di3_88 (by decide) ?_
  refine hw_newa (N := 120) hx hb (hts _ (mi_iwn 4 rfl)) hK hw hS (by decide) (by decide) (by decide) (Nat.le_of_ble_eq_true rfl) (Nat.le_of_ble_eq_true rfl) di3_90 (fun H21 hw hS => ?_)
  have hw : Hw D a [.inr (3, [.ref (a + 1), .ref (a + 2), .ref (a + 3), .int 0, .ref (a + 4), .ref (a + 5), .ref (a + 6), .ref (a + 7), .int 0, .int 0, .ref (a + 8), .ref (a + 9), .int 0, .int 0, .int 0, .int 0, .ref (a + 10), .null, .long 0]), .inl (cI, 154, .inl fun _ => 0), .inl (cI, 154, .inl fun _ => 0), .inl (cI, 770, .inl fun _ => 0), .inl (cI, 3, .inl fun _ => 0), .inl (cI, 6, .inl fun _ => 0), .inl (cI, 30, .inl fun _ => 0), .inl (cI, 6, .inl fun _ => 0), .inl (cI, 154, .inl fun _ => 0), .inl (cI, 120, .inl fun _ => 0), .inl (cI, 40, .inl fun _ => 0), .inl (cI, 120, .inl fun _ => 0)] H21 := hw
  refine hw_put (ci := 3) (i := 0) hx hb hts hown hin rfl hK hw hS (Nat.le_refl _) rfl 17 (by decide) (Nat.le_of_ble_eq_true rfl) (hts _ (mi_iwn 31 rfl)) rfl rfl rfl di3_92 (fun H22 locs22 hw hS => ?_)
  have hw : Hw D a [.inr (3, [.ref (a + 1), .ref (a + 2), .ref (a + 3), .int 0, .ref (a + 4), .ref (a + 5), .ref (a + 6), .ref (a + 7), .int 0, .int 0, .ref (a + 8), .ref (a + 9), .int 0, .int 0, .int 0, .int 0, .ref (a + 10), .ref (a + 11), .long 0]), .inl (cI, 154, .inl fun _ => 0), .inl (cI, 154, .inl fun _ => 0), .inl (cI, 770, .inl fun _ => 0), .inl (cI, 3, .inl fun _ => 0), .inl (cI, 6, .inl fun _ => 0), .inl (cI, 30, .inl fun _ => 0), .inl (cI, 6, .inl fun _ => 0), .inl (cI, 154, .inl fun _ => 0), .inl (cI, 120, .inl fun _ => 0), .inl (cI, 40, .inl fun _ => 0), .inl (cI, 120, .inl fun _ => 0)] H22 := hw
  refine lv_aload_n hx hb di3_95 rfl (lv_at hl 0 rfl) ?_
  refine hw_get (ci := 3) (i := 0) hx hb hts hown rfl hK hw rfl 0 (by decide) (hts _ (mi_iwn 21 rfl)) rfl di3_96 ?_
  refine lv_iconst (v := 0) hx hb di3_99 (by decide) ?_
  refine lv_bipush (v := 16) hx hb di3_100 (by decide) ?_
  refine hw_iast (i := 1) hx hb hK hw hS (Nat.le_add_right _ _) rfl (by unfold vp_in; decide) di3_102 (fun H23 locs23 hw hS => ?_)
  have hw : Hw D a [.inr (3, [.ref (a + 1), .ref (a + 2), .ref (a + 3), .int 0, .ref (a + 4), .ref (a + 5), .ref (a + 6), .ref (a + 7), .int 0, .int 0, .ref (a + 8), .ref (a + 9), .int 0, .int 0, .int 0, .int 0, .ref (a + 10), .ref (a + 11), .long 0]), .inl (cI, 154, .inl (upd (fun _ => 0) 0 16)), .inl (cI, 154, .inl fun _ => 0), .inl (cI, 770, .inl fun _ => 0), .inl (cI, 3, .inl fun _ => 0), .inl (cI, 6, .inl fun _ => 0), .inl (cI, 30, .inl fun _ => 0), .inl (cI, 6, .inl fun _ => 0), .inl (cI, 154, .inl fun _ => 0), .inl (cI, 120, .inl fun _ => 0), .inl (cI, 40, .inl fun _ => 0), .inl (cI, 120, .inl fun _ => 0)] H23 := hw
  refine lv_aload_n hx hb di3_103 rfl (lv_at hl 0 rfl) ?_
  refine hw_get (ci := 3) (i := 0) hx hb hts hown rfl hK hw rfl 0 (by decide) (hts _ (mi_iwn 21 rfl)) rfl di3_104 ?_
  refine lv_iconst (v := 1) hx hb di3_107 (by decide) ?_
  refine lv_bipush (v := 8) hx hb di3_108 (by decide) ?_
  refine hw_iast (i := 1) hx hb hK hw hS (Nat.le_add_right _ _) rfl (by unfold vp_in; decide) di3_110 (fun H24 locs24 hw hS => ?_)
  have hw : Hw D a [.inr (3, [.ref (a + 1), .ref (a + 2), .ref (a + 3), .int 0, .ref (a + 4), .ref (a + 5), .ref (a + 6), .ref (a + 7), .int 0, .int 0, .ref (a + 8), .ref (a + 9), .int 0, .int 0, .int 0, .int 0, .ref (a + 10), .ref (a + 11), .long 0]), .inl (cI, 154, .inl (upd ((upd (fun _ => 0) 0 16)) 1 8)), .inl (cI, 154, .inl fun _ => 0), .inl (cI, 770, .inl fun _ => 0), .inl (cI, 3, .inl fun _ => 0), .inl (cI, 6, .inl fun _ => 0), .inl (cI, 30, .inl fun _ => 0), .inl (cI, 6, .inl fun _ => 0), .inl (cI, 154, .inl fun _ => 0), .inl (cI, 120, .inl fun _ => 0), .inl (cI, 40, .inl fun _ => 0), .inl (cI, 120, .inl fun _ => 0)] H24 := hw
  refine lv_aload_n hx hb di3_111 rfl (lv_at hl 0 rfl) ?_
  refine hw_get (ci := 3) (i := 0) hx hb hts hown rfl hK hw rfl 0 (by decide) (hts _ (mi_iwn 21 rfl)) rfl di3_112 ?_
  refine lv_iconst (v := 2) hx hb di3_115 (by decide) ?_
  refine lv_iconst (v := 5) hx hb di3_116 (by decide) ?_
  refine hw_iast (i := 1) hx hb hK hw hS (Nat.le_add_right _ _) rfl (by unfold vp_in; decide) di3_117 (fun H25 locs25 hw hS => ?_)
  have hw : Hw D a [.inr (3, [.ref (a + 1), .ref (a + 2), .ref (a + 3), .int 0, .ref (a + 4), .ref (a + 5), .ref (a + 6), .ref (a + 7), .int 0, .int 0, .ref (a + 8), .ref (a + 9), .int 0, .int 0, .int 0, .int 0, .ref (a + 10), .ref (a + 11), .long 0]), .inl (cI, 154, .inl (upd ((upd ((upd (fun _ => 0) 0 16)) 1 8)) 2 5)), .inl (cI, 154, .inl fun _ => 0), .inl (cI, 770, .inl fun _ => 0), .inl (cI, 3, .inl fun _ => 0), .inl (cI, 6, .inl fun _ => 0), .inl (cI, 30, .inl fun _ => 0), .inl (cI, 6, .inl fun _ => 0), .inl (cI, 154, .inl fun _ => 0), .inl (cI, 120, .inl fun _ => 0), .inl (cI, 40, .inl fun _ => 0), .inl (cI, 120, .inl fun _ => 0)] H25 := hw
  exact W.vret hx hb hr (fun t ht hW => ⟨⟨(), rfl, trivial, by show Hw D a (ee_3 cI cII cN a) t.heap; rw [ht]; exact hw⟩, hS.F ht⟩) hS.2.2 di3_118
