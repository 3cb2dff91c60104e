/-! THE CONSTRUCTORS: names, words, decode rows (printed by wip/whole/ctor.py) -/
abbrev ci0 : ByteArray := prog_2_method_1_code
def yi0 : MethodName := ⟨RX0, "<init>", "()V"⟩
abbrev ci1 : ByteArray := prog_3_method_1_code
def yi1 : MethodName := ⟨RX1, "<init>", "()V"⟩
abbrev ci2 : ByteArray := prog_1_method_1_code
def yi2 : MethodName := ⟨RX2, "<init>", "()V"⟩
abbrev ci3 : ByteArray := prog_5_method_1_code
def yi3 : MethodName := ⟨RX3, "<init>", "()V"⟩
def mi_iw : List Cond := [.methodLink RX0 3 objectInit, .instanceMethod objectInit, .code objectInit ⟨#[0xb1]⟩ 1 none, .classLink RX0 9 "[[I", .arrayClass .int, .fieldLink RX0 11 "SlipStore$Net" "nodes" "[[I", .fieldLink RX0 16 "SlipStore$Net" "links" "[[I", .fieldLink RX0 19 "SlipStore$Net" "settings" "[I", .fieldLink RX0 23 "SlipStore$Net" "nodeCount" "I", .fieldLink RX0 27 "SlipStore$Net" "linkCount" "I", .fieldLink RX0 30 "SlipStore$Net" "tickCount" "I", .fieldLink RX0 33 "SlipStore$Net" "found" "[[I", .fieldLink RX0 36 "SlipStore$Net" "keys" "[I", .methodLink RX1 3 objectInit, .fieldLink RX1 9 "SlipStore$Script" "length" "I", .fieldLink RX1 15 "SlipStore$Script" "place" "I", .fieldLink RX1 18 "SlipStore$Script" "orderCount" "I", .classLink RX1 21 "[[I", .fieldLink RX1 23 "SlipStore$Script" "orders" "[[I", .fieldLink RX1 26 "SlipStore$Script" "text" "[I", .methodLink RX3 1 objectInit, .fieldLink RX3 7 "SlipStoreModel" "now" "[I", .fieldLink RX3 13 "SlipStoreModel" "held" "[I", .fieldLink RX3 16 "SlipStoreModel" "past" "[I", .fieldLink RX3 19 "SlipStoreModel" "refused" "[I", .fieldLink RX3 22 "SlipStoreModel" "taken" "[I", .fieldLink RX3 25 "SlipStoreModel" "offered" "[I", .fieldLink RX3 28 "SlipStoreModel" "row" "[I", .fieldLink RX3 31 "SlipStoreModel" "aside" "[I", .fieldLink RX3 34 "SlipStoreModel" "text" "[I", .fieldLink RX3 37 "SlipStoreModel" "letters" "[I", .fieldLink RX3 40 "SlipStoreModel" "numbers" "[I", .methodLink RX2 3 objectInit, .classLink RX2 9 RX0, .instantiable RX0 8, .initialized RX0, .methodLink RX2 11 yi0, .instanceMethod yi0, .code yi0 ci0 1 none, .classLink RX2 27 RX1, .instantiable RX1 5, .initialized RX1, .instanceMethod yi1, .code yi1 ci1 1 none, .fieldLink RX2 12 "SlipStore" "now" "LSlipStore$Net;", .fieldLink RX2 16 "SlipStore" "trial" "LSlipStore$Net;", .fieldLink RX2 19 "SlipStore" "states" "[LSlipStore$Net;", .fieldLink RX2 23 "SlipStore" "stateCount" "I", .fieldLink RX2 30 "SlipStore" "script" "LSlipStore$Script;", .fieldLink RX2 34 "SlipStore" "badCount" "I", .fieldLink RX2 37 "SlipStore" "noCount" "I", .fieldLink RX2 40 "SlipStore" "fullCount" "I", .classLink "SlipStoreLaw" 7 RX2, .instantiable RX2 8, .initialized RX2, .methodLink "SlipStoreLaw" 9 yi2, .instanceMethod yi2, .code yi2 ci2 2 none, .classLink "SlipStoreLaw" 10 RX3, .instantiable RX3 19, .initialized RX3, .methodLink "SlipStoreLaw" 12 yi3, .instanceMethod yi3, .code yi3 ci3 1 none]
def mi_ip : List Nat := [95, 88, 89, 96, 127, 98, 100, 102, 103, 105, 107, 108, 109, 134, 136, 138, 140, 135, 142, 144, 479, 480, 481, 482, 484, 485, 486, 487, 490, 491, 496, 497, 87, 90, 91, 77, 92, 93, 94, 129, 130, 78, 132, 133, 156, 157, 158, 159, 160, 161, 162, 163, 82, 83, 76, 84, 85, 86, 474, 475, 79, 476, 477, 478]
theorem mi_w_i : mi_wp mi_iw mi_ip = true := by decide +kernel
theorem mi_iwn (n : Nat) {w : Cond} (h : mi_iw[n]? = some w) : w ∈ mi_gt := mi_wp_in _ _ mi_w_i _ (List.mem_of_getElem? h)
theorem di0_0 : decode ci0 0 = .ok (.aload_n 0, 1) := by decide +kernel
theorem di0_1 : decode ci0 1 = .ok (.invokespecial 3, 3) := by decide +kernel
theorem di0_4 : decode ci0 4 = .ok (.aload_n 0, 1) := by decide +kernel
theorem di0_5 : decode ci0 5 = .ok (.bipush 6, 2) := by decide +kernel
theorem di0_7 : decode ci0 7 = .ok (.bipush 8, 2) := by decide +kernel
theorem di0_9 : decode ci0 9 = .ok (.multianewarray 9 2, 4) := by decide +kernel
theorem di0_13 : decode ci0 13 = .ok (.putfield 11, 3) := by decide +kernel
theorem di0_16 : decode ci0 16 = .ok (.aload_n 0, 1) := by decide +kernel
theorem di0_17 : decode ci0 17 = .ok (.bipush 10, 2) := by decide +kernel
theorem di0_19 : decode ci0 19 = .ok (.bipush 10, 2) := by decide +kernel
theorem di0_21 : decode ci0 21 = .ok (.multianewarray 9 2, 4) := by decide +kernel
theorem di0_25 : decode ci0 25 = .ok (.putfield 16, 3) := by decide +kernel
theorem di0_28 : decode ci0 28 = .ok (.aload_n 0, 1) := by decide +kernel
theorem di0_29 : decode ci0 29 = .ok (.iconst 3, 1) := by decide +kernel
theorem di0_30 : decode ci0 30 = .ok (.newarray .int, 2) := by decide +kernel
theorem di0_32 : decode ci0 32 = .ok (.putfield 19, 3) := by decide +kernel
theorem di0_35 : decode ci0 35 = .ok (.aload_n 0, 1) := by decide +kernel
theorem di0_36 : decode ci0 36 = .ok (.iconst 0, 1) := by decide +kernel
theorem di0_37 : decode ci0 37 = .ok (.putfield 23, 3) := by decide +kernel
theorem di0_40 : decode ci0 40 = .ok (.aload_n 0, 1) := by decide +kernel
theorem di0_41 : decode ci0 41 = .ok (.iconst 0, 1) := by decide +kernel
theorem di0_42 : decode ci0 42 = .ok (.putfield 27, 3) := by decide +kernel
theorem di0_45 : decode ci0 45 = .ok (.aload_n 0, 1) := by decide +kernel
theorem di0_46 : decode ci0 46 = .ok (.iconst 0, 1) := by decide +kernel
theorem di0_47 : decode ci0 47 = .ok (.putfield 30, 3) := by decide +kernel
theorem di0_50 : decode ci0 50 = .ok (.aload_n 0, 1) := by decide +kernel
theorem di0_51 : decode ci0 51 = .ok (.bipush 6, 2) := by decide +kernel
theorem di0_53 : decode ci0 53 = .ok (.iconst 4, 1) := by decide +kernel
theorem di0_54 : decode ci0 54 = .ok (.multianewarray 9 2, 4) := by decide +kernel
theorem di0_58 : decode ci0 58 = .ok (.putfield 33, 3) := by decide +kernel
theorem di0_61 : decode ci0 61 = .ok (.aload_n 0, 1) := by decide +kernel
theorem di0_62 : decode ci0 62 = .ok (.bipush 10, 2) := by decide +kernel
theorem di0_64 : decode ci0 64 = .ok (.newarray .int, 2) := by decide +kernel
theorem di0_66 : decode ci0 66 = .ok (.putfield 36, 3) := by decide +kernel
theorem di0_69 : decode ci0 69 = .ok (.aload_n 0, 1) := by decide +kernel
theorem di0_70 : decode ci0 70 = .ok (.getfield 19, 3) := by decide +kernel
theorem di0_73 : decode ci0 73 = .ok (.iconst 0, 1) := by decide +kernel
theorem di0_74 : decode ci0 74 = .ok (.bipush 16, 2) := by decide +kernel
theorem di0_76 : decode ci0 76 = .ok (.iastore, 1) := by decide +kernel
theorem di0_77 : decode ci0 77 = .ok (.aload_n 0, 1) := by decide +kernel
theorem di0_78 : decode ci0 78 = .ok (.getfield 19, 3) := by decide +kernel
theorem di0_81 : decode ci0 81 = .ok (.iconst 1, 1) := by decide +kernel
theorem di0_82 : decode ci0 82 = .ok (.bipush 8, 2) := by decide +kernel
theorem di0_84 : decode ci0 84 = .ok (.iastore, 1) := by decide +kernel
theorem di0_85 : decode ci0 85 = .ok (.aload_n 0, 1) := by decide +kernel
theorem di0_86 : decode ci0 86 = .ok (.getfield 19, 3) := by decide +kernel
theorem di0_89 : decode ci0 89 = .ok (.iconst 2, 1) := by decide +kernel
theorem di0_90 : decode ci0 90 = .ok (.iconst 5, 1) := by decide +kernel
theorem di0_91 : decode ci0 91 = .ok (.iastore, 1) := by decide +kernel
theorem di0_92 : decode ci0 92 = .ok (.return_, 1) := by decide +kernel
theorem di1_0 : decode ci1 0 = .ok (.aload_n 0, 1) := by decide +kernel
theorem di1_1 : decode ci1 1 = .ok (.invokespecial 3, 3) := by decide +kernel
theorem di1_4 : decode ci1 4 = .ok (.aload_n 0, 1) := by decide +kernel
theorem di1_5 : decode ci1 5 = .ok (.iconst 0, 1) := by decide +kernel
theorem di1_6 : decode ci1 6 = .ok (.putfield 9, 3) := by decide +kernel
theorem di1_9 : decode ci1 9 = .ok (.aload_n 0, 1) := by decide +kernel
theorem di1_10 : decode ci1 10 = .ok (.iconst 0, 1) := by decide +kernel
theorem di1_11 : decode ci1 11 = .ok (.putfield 15, 3) := by decide +kernel
theorem di1_14 : decode ci1 14 = .ok (.aload_n 0, 1) := by decide +kernel
theorem di1_15 : decode ci1 15 = .ok (.iconst 0, 1) := by decide +kernel
theorem di1_16 : decode ci1 16 = .ok (.putfield 18, 3) := by decide +kernel
theorem di1_19 : decode ci1 19 = .ok (.aload_n 0, 1) := by decide +kernel
theorem di1_20 : decode ci1 20 = .ok (.bipush 40, 2) := by decide +kernel
theorem di1_22 : decode ci1 22 = .ok (.iconst 4, 1) := by decide +kernel
theorem di1_23 : decode ci1 23 = .ok (.multianewarray 21 2, 4) := by decide +kernel
theorem di1_27 : decode ci1 27 = .ok (.putfield 23, 3) := by decide +kernel
theorem di1_30 : decode ci1 30 = .ok (.aload_n 0, 1) := by decide +kernel
theorem di1_31 : decode ci1 31 = .ok (.bipush 120, 2) := by decide +kernel
theorem di1_33 : decode ci1 33 = .ok (.newarray .int, 2) := by decide +kernel
theorem di1_35 : decode ci1 35 = .ok (.putfield 26, 3) := by decide +kernel
theorem di1_38 : decode ci1 38 = .ok (.return_, 1) := by decide +kernel
theorem di2_0 : decode ci2 0 = .ok (.aload_n 0, 1) := by decide +kernel
theorem di2_1 : decode ci2 1 = .ok (.invokespecial 3, 3) := by decide +kernel
theorem di2_4 : decode ci2 4 = .ok (.aload_n 0, 1) := by decide +kernel
theorem di2_5 : decode ci2 5 = .ok (.new 9, 3) := by decide +kernel
theorem di2_8 : decode ci2 8 = .ok (.dup, 1) := by decide +kernel
theorem di2_9 : decode ci2 9 = .ok (.invokespecial 11, 3) := by decide +kernel
theorem di2_12 : decode ci2 12 = .ok (.putfield 12, 3) := by decide +kernel
theorem di2_15 : decode ci2 15 = .ok (.aload_n 0, 1) := by decide +kernel
theorem di2_16 : decode ci2 16 = .ok (.new 9, 3) := by decide +kernel
theorem di2_19 : decode ci2 19 = .ok (.dup, 1) := by decide +kernel
theorem di2_20 : decode ci2 20 = .ok (.invokespecial 11, 3) := by decide +kernel
theorem di2_23 : decode ci2 23 = .ok (.putfield 16, 3) := by decide +kernel
theorem di2_26 : decode ci2 26 = .ok (.aload_n 0, 1) := by decide +kernel
theorem di2_27 : decode ci2 27 = .ok (.iconst 5, 1) := by decide +kernel
theorem di2_28 : decode ci2 28 = .ok (.anewarray 9, 3) := by decide +kernel
theorem di2_31 : decode ci2 31 = .ok (.putfield 19, 3) := by decide +kernel
theorem di2_34 : decode ci2 34 = .ok (.aload_n 0, 1) := by decide +kernel
theorem di2_35 : decode ci2 35 = .ok (.iconst 0, 1) := by decide +kernel
theorem di2_36 : decode ci2 36 = .ok (.putfield 23, 3) := by decide +kernel
theorem di2_39 : decode ci2 39 = .ok (.aload_n 0, 1) := by decide +kernel
theorem di2_40 : decode ci2 40 = .ok (.new 27, 3) := by decide +kernel
theorem di2_43 : decode ci2 43 = .ok (.dup, 1) := by decide +kernel
theorem di2_44 : decode ci2 44 = .ok (.invokespecial 29, 3) := by decide +kernel
theorem di2_47 : decode ci2 47 = .ok (.putfield 30, 3) := by decide +kernel
theorem di2_50 : decode ci2 50 = .ok (.aload_n 0, 1) := by decide +kernel
theorem di2_51 : decode ci2 51 = .ok (.iconst 0, 1) := by decide +kernel
theorem di2_52 : decode ci2 52 = .ok (.putfield 34, 3) := by decide +kernel
theorem di2_55 : decode ci2 55 = .ok (.aload_n 0, 1) := by decide +kernel
theorem di2_56 : decode ci2 56 = .ok (.iconst 0, 1) := by decide +kernel
theorem di2_57 : decode ci2 57 = .ok (.putfield 37, 3) := by decide +kernel
theorem di2_60 : decode ci2 60 = .ok (.aload_n 0, 1) := by decide +kernel
theorem di2_61 : decode ci2 61 = .ok (.iconst 0, 1) := by decide +kernel
theorem di2_62 : decode ci2 62 = .ok (.putfield 40, 3) := by decide +kernel
theorem di2_65 : decode ci2 65 = .ok (.iconst 0, 1) := by decide +kernel
theorem di2_66 : decode ci2 66 = .ok (.istore_n 1, 1) := by decide +kernel
theorem di2_67 : decode ci2 67 = .ok (.iload_n 1, 1) := by decide +kernel
theorem di2_68 : decode ci2 68 = .ok (.iconst 5, 1) := by decide +kernel
theorem di2_69 : decode ci2 69 = .ok (.if_icmp .ge 22, 3) := by decide +kernel
theorem di2_72 : decode ci2 72 = .ok (.aload_n 0, 1) := by decide +kernel
theorem di2_73 : decode ci2 73 = .ok (.getfield 19, 3) := by decide +kernel
theorem di2_76 : decode ci2 76 = .ok (.iload_n 1, 1) := by decide +kernel
theorem di2_77 : decode ci2 77 = .ok (.new 9, 3) := by decide +kernel
theorem di2_80 : decode ci2 80 = .ok (.dup, 1) := by decide +kernel
theorem di2_81 : decode ci2 81 = .ok (.invokespecial 11, 3) := by decide +kernel
theorem di2_84 : decode ci2 84 = .ok (.aastore, 1) := by decide +kernel
theorem di2_85 : decode ci2 85 = .ok (.iinc 1 1, 3) := by decide +kernel
theorem di2_88 : decode ci2 88 = .ok (.goto (-21), 3) := by decide +kernel
theorem di2_91 : decode ci2 91 = .ok (.return_, 1) := by decide +kernel
theorem di3_0 : decode ci3 0 = .ok (.aload_n 0, 1) := by decide +kernel
theorem di3_1 : decode ci3 1 = .ok (.invokespecial 1, 3) := by decide +kernel
theorem di3_4 : decode ci3 4 = .ok (.aload_n 0, 1) := by decide +kernel
theorem di3_5 : decode ci3 5 = .ok (.sipush 154, 3) := by decide +kernel
theorem di3_8 : decode ci3 8 = .ok (.newarray .int, 2) := by decide +kernel
theorem di3_10 : decode ci3 10 = .ok (.putfield 7, 3) := by decide +kernel
theorem di3_13 : decode ci3 13 = .ok (.aload_n 0, 1) := by decide +kernel
theorem di3_14 : decode ci3 14 = .ok (.sipush 154, 3) := by decide +kernel
theorem di3_17 : decode ci3 17 = .ok (.newarray .int, 2) := by decide +kernel
theorem di3_19 : decode ci3 19 = .ok (.putfield 13, 3) := by decide +kernel
theorem di3_22 : decode ci3 22 = .ok (.aload_n 0, 1) := by decide +kernel
theorem di3_23 : decode ci3 23 = .ok (.sipush 770, 3) := by decide +kernel
theorem di3_26 : decode ci3 26 = .ok (.newarray .int, 2) := by decide +kernel
theorem di3_28 : decode ci3 28 = .ok (.putfield 16, 3) := by decide +kernel
theorem di3_31 : decode ci3 31 = .ok (.aload_n 0, 1) := by decide +kernel
theorem di3_32 : decode ci3 32 = .ok (.iconst 3, 1) := by decide +kernel
theorem di3_33 : decode ci3 33 = .ok (.newarray .int, 2) := by decide +kernel
theorem di3_35 : decode ci3 35 = .ok (.putfield 19, 3) := by decide +kernel
theorem di3_38 : decode ci3 38 = .ok (.aload_n 0, 1) := by decide +kernel
theorem di3_39 : decode ci3 39 = .ok (.bipush 6, 2) := by decide +kernel
theorem di3_41 : decode ci3 41 = .ok (.newarray .int, 2) := by decide +kernel
theorem di3_43 : decode ci3 43 = .ok (.putfield 22, 3) := by decide +kernel
theorem di3_46 : decode ci3 46 = .ok (.aload_n 0, 1) := by decide +kernel
theorem di3_47 : decode ci3 47 = .ok (.bipush 30, 2) := by decide +kernel
theorem di3_49 : decode ci3 49 = .ok (.newarray .int, 2) := by decide +kernel
theorem di3_51 : decode ci3 51 = .ok (.putfield 25, 3) := by decide +kernel
theorem di3_54 : decode ci3 54 = .ok (.aload_n 0, 1) := by decide +kernel
theorem di3_55 : decode ci3 55 = .ok (.bipush 6, 2) := by decide +kernel
theorem di3_57 : decode ci3 57 = .ok (.newarray .int, 2) := by decide +kernel
theorem di3_59 : decode ci3 59 = .ok (.putfield 28, 3) := by decide +kernel
theorem di3_62 : decode ci3 62 = .ok (.aload_n 0, 1) := by decide +kernel
theorem di3_63 : decode ci3 63 = .ok (.sipush 154, 3) := by decide +kernel
theorem di3_66 : decode ci3 66 = .ok (.newarray .int, 2) := by decide +kernel
theorem di3_68 : decode ci3 68 = .ok (.putfield 31, 3) := by decide +kernel
theorem di3_71 : decode ci3 71 = .ok (.aload_n 0, 1) := by decide +kernel
theorem di3_72 : decode ci3 72 = .ok (.bipush 120, 2) := by decide +kernel
theorem di3_74 : decode ci3 74 = .ok (.newarray .int, 2) := by decide +kernel
theorem di3_76 : decode ci3 76 = .ok (.putfield 34, 3) := by decide +kernel
theorem di3_79 : decode ci3 79 = .ok (.aload_n 0, 1) := by decide +kernel
theorem di3_80 : decode ci3 80 = .ok (.bipush 40, 2) := by decide +kernel
theorem di3_82 : decode ci3 82 = .ok (.newarray .int, 2) := by decide +kernel
theorem di3_84 : decode ci3 84 = .ok (.putfield 37, 3) := by decide +kernel
theorem di3_87 : decode ci3 87 = .ok (.aload_n 0, 1) := by decide +kernel
theorem di3_88 : decode ci3 88 = .ok (.bipush 120, 2) := by decide +kernel
theorem di3_90 : decode ci3 90 = .ok (.newarray .int, 2) := by decide +kernel
theorem di3_92 : decode ci3 92 = .ok (.putfield 40, 3) := by decide +kernel
theorem di3_95 : decode ci3 95 = .ok (.aload_n 0, 1) := by decide +kernel
theorem di3_96 : decode ci3 96 = .ok (.getfield 7, 3) := by decide +kernel
theorem di3_99 : decode ci3 99 = .ok (.iconst 0, 1) := by decide +kernel
theorem di3_100 : decode ci3 100 = .ok (.bipush 16, 2) := by decide +kernel
theorem di3_102 : decode ci3 102 = .ok (.iastore, 1) := by decide +kernel
theorem di3_103 : decode ci3 103 = .ok (.aload_n 0, 1) := by decide +kernel
theorem di3_104 : decode ci3 104 = .ok (.getfield 7, 3) := by decide +kernel
theorem di3_107 : decode ci3 107 = .ok (.iconst 1, 1) := by decide +kernel
theorem di3_108 : decode ci3 108 = .ok (.bipush 8, 2) := by decide +kernel
theorem di3_110 : decode ci3 110 = .ok (.iastore, 1) := by decide +kernel
theorem di3_111 : decode ci3 111 = .ok (.aload_n 0, 1) := by decide +kernel
theorem di3_112 : decode ci3 112 = .ok (.getfield 7, 3) := by decide +kernel
theorem di3_115 : decode ci3 115 = .ok (.iconst 2, 1) := by decide +kernel
theorem di3_116 : decode ci3 116 = .ok (.iconst 5, 1) := by decide +kernel
theorem di3_117 : decode ci3 117 = .ok (.iastore, 1) := by decide +kernel
theorem di3_118 : decode ci3 118 = .ok (.return_, 1) := by decide +kernel
/-- what a constructor finds of the tables -/
def mi_KC (D : va_G) (cI cII cN : ClassId) (U : State) : Prop := va_K D vwCl (mi_tys cI cII cN) U ∧ mi_aoa U ∧ va_AO "SlipStore$Net" U ∧ va_Nw (.methodLinkNest "SlipStore" 29 yi1 "SlipStore") U
theorem mi_KC.moved {D : va_G} {cI cII cN : ClassId} {s U : State} (h : mi_KC D cI cII cN s) (hW : s.WarmedH U.vm) : mi_KC D cI cII cN U := ⟨va_K.moved hW.alike h.1, mi_aoa.moved hW.alike h.2.1, va_AO.moved hW.alike h.2.2.1, va_Nw.warmM hW h.2.2.2⟩
theorem mi_KC.calling {D : va_G} {cI cII cN : ClassId} {U : State} {g : JFrame} {mk : MethodId} {a : Array Value} (h : mi_KC D cI cII cN U) : mi_KC D cI cII cN (U.calling g mk a) := by
  have hA : U.vm.Alike (U.calling g mk a).vm := Vm.Alike.refl U.vm
  exact ⟨va_K.moved hA h.1, mi_aoa.moved hA h.2.1, va_AO.moved hA h.2.2.1, va_Nw.same rfl rfl h.2.2.2⟩
def ee_0 (cI cII cN : ClassId) (a : Nat) : List va_E := [.inr (0, [.ref (a + 1), .ref (a + 8), .ref (a + 19), .int 0, .int 0, .int 0, .ref (a + 20), .ref (a + 27)]), mi_out cII 6 (a + 1), .inl (cI, 8, .inl fun _ => 0), .inl (cI, 8, .inl fun _ => 0), .inl (cI, 8, .inl fun _ => 0), .inl (cI, 8, .inl fun _ => 0), .inl (cI, 8, .inl fun _ => 0), .inl (cI, 8, .inl fun _ => 0), mi_out cII 10 (a + 8), .inl (cI, 10, .inl fun _ => 0), .inl (cI, 10, .inl fun _ => 0), .inl (cI, 10, .inl fun _ => 0), .inl (cI, 10, .inl fun _ => 0), .inl (cI, 10, .inl fun _ => 0), .inl (cI, 10, .inl fun _ => 0), .inl (cI, 10, .inl fun _ => 0), .inl (cI, 10, .inl fun _ => 0), .inl (cI, 10, .inl fun _ => 0), .inl (cI, 10, .inl fun _ => 0), .inl (cI, 3, .inl (upd ((upd ((upd (fun _ => 0) 0 16)) 1 8)) 2 5)), mi_out cII 6 (a + 20), .inl (cI, 4, .inl fun _ => 0), .inl (cI, 4, .inl fun _ => 0), .inl (cI, 4, .inl fun _ => 0), .inl (cI, 4, .inl fun _ => 0), .inl (cI, 4, .inl fun _ => 0), .inl (cI, 4, .inl fun _ => 0), .inl (cI, 10, .inl fun _ => 0)]
def ee_1 (cI cII cN : ClassId) (a : Nat) : List va_E := [.inr (1, [.int 0, .int 0, .int 0, .ref (a + 1), .ref (a + 42)]), mi_out cII 40 (a + 1), .inl (cI, 4, .inl fun _ => 0), .inl (cI, 4, .inl fun _ => 0), .inl (cI, 4, .inl fun _ => 0), .inl (cI, 4, .inl fun _ => 0), .inl (cI, 4, .inl fun _ => 0), .inl (cI, 4, .inl fun _ => 0), .inl (cI, 4, .inl fun _ => 0), .inl (cI, 4, .inl fun _ => 0), .inl (cI, 4, .inl fun _ => 0), .inl (cI, 4, .inl fun _ => 0), .inl (cI, 4, .inl fun _ => 0), .inl (cI, 4, .inl fun _ => 0), .inl (cI, 4, .inl fun _ => 0), .inl (cI, 4, .inl fun _ => 0), .inl (cI, 4, .inl fun _ => 0), .inl (cI, 4, .inl fun _ => 0), .inl (cI, 4, .inl fun _ => 0), .inl (cI, 4, .inl fun _ => 0), .inl (cI, 4, .inl fun _ => 0), .inl (cI, 4, .inl fun _ => 0), .inl (cI, 4, .inl fun _ => 0), .inl (cI, 4, .inl fun _ => 0), .inl (cI, 4, .inl fun _ => 0), .inl (cI, 4, .inl fun _ => 0), .inl (cI, 4, .inl fun _ => 0), .inl (cI, 4, .inl fun _ => 0), .inl (cI, 4, .inl fun _ => 0), .inl (cI, 4, .inl fun _ => 0), .inl (cI, 4, .inl fun _ => 0), .inl (cI, 4, .inl fun _ => 0), .inl (cI, 4, .inl fun _ => 0), .inl (cI, 4, .inl fun _ => 0), .inl (cI, 4, .inl fun _ => 0), .inl (cI, 4, .inl fun _ => 0), .inl (cI, 4, .inl fun _ => 0), .inl (cI, 4, .inl fun _ => 0), .inl (cI, 4, .inl fun _ => 0), .inl (cI, 4, .inl fun _ => 0), .inl (cI, 4, .inl fun _ => 0), .inl (cI, 4, .inl fun _ => 0), .inl (cI, 120, .inl fun _ => 0)]
def ee_3 (cI cII cN : ClassId) (a : Nat) : List va_E := [.inr (3, [.ref (a + 1), .ref (a + 2), .ref (a + 3), .int 0, .ref (a + 4), .ref (a + 5), .ref (a + 6), .ref (a + 7), .int 0, .int 0, .ref (a + 8), .ref (a + 9), .int 0, .int 0, .int 0, .int 0, .ref (a + 10), .ref (a + 11), .long 0]), .inl (cI, 154, .inl (upd ((upd ((upd (fun _ => 0) 0 16)) 1 8)) 2 5)), .inl (cI, 154, .inl fun _ => 0), .inl (cI, 770, .inl fun _ => 0), .inl (cI, 3, .inl fun _ => 0), .inl (cI, 6, .inl fun _ => 0), .inl (cI, 30, .inl fun _ => 0), .inl (cI, 6, .inl fun _ => 0), .inl (cI, 154, .inl fun _ => 0), .inl (cI, 120, .inl fun _ => 0), .inl (cI, 40, .inl fun _ => 0), .inl (cI, 120, .inl fun _ => 0)]
