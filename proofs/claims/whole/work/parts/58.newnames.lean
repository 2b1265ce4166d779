/-! the constructors: names, codes, instructions (printed by wip/whole/gen_news.py) -/
abbrev bn_BK : ByteArray := prog_1_method_1_code
def yn_BK : MethodName := ⟨R_BK, "<init>", "()V"⟩
theorem dn_BK_0 : decode bn_BK 0 = .ok (.aload_n 0, 1) := by decide +kernel
theorem dn_BK_1 : decode bn_BK 1 = .ok (.invokespecial 3, 3) := by decide +kernel
theorem dn_BK_4 : decode bn_BK 4 = .ok (.aload_n 0, 1) := by decide +kernel
theorem dn_BK_5 : decode bn_BK 5 = .ok (.new 9, 3) := by decide +kernel
theorem dn_BK_8 : decode bn_BK 8 = .ok (.dup, 1) := by decide +kernel
theorem dn_BK_9 : decode bn_BK 9 = .ok (.invokespecial 11, 3) := by decide +kernel
theorem dn_BK_12 : decode bn_BK 12 = .ok (.putfield 12, 3) := by decide +kernel
theorem dn_BK_15 : decode bn_BK 15 = .ok (.aload_n 0, 1) := by decide +kernel
theorem dn_BK_16 : decode bn_BK 16 = .ok (.iconst 2, 1) := by decide +kernel
theorem dn_BK_17 : decode bn_BK 17 = .ok (.anewarray 16, 3) := by decide +kernel
theorem dn_BK_20 : decode bn_BK 20 = .ok (.putfield 18, 3) := by decide +kernel
theorem dn_BK_23 : decode bn_BK 23 = .ok (.iconst 0, 1) := by decide +kernel
theorem dn_BK_24 : decode bn_BK 24 = .ok (.istore_n 1, 1) := by decide +kernel
theorem dn_BK_25 : decode bn_BK 25 = .ok (.iload_n 1, 1) := by decide +kernel
theorem dn_BK_26 : decode bn_BK 26 = .ok (.iconst 2, 1) := by decide +kernel
theorem dn_BK_27 : decode bn_BK 27 = .ok (.if_icmp .ge (27), 3) := by decide +kernel
theorem dn_BK_30 : decode bn_BK 30 = .ok (.aload_n 0, 1) := by decide +kernel
theorem dn_BK_31 : decode bn_BK 31 = .ok (.getfield 18, 3) := by decide +kernel
theorem dn_BK_34 : decode bn_BK 34 = .ok (.iload_n 1, 1) := by decide +kernel
theorem dn_BK_35 : decode bn_BK 35 = .ok (.new 16, 3) := by decide +kernel
theorem dn_BK_38 : decode bn_BK 38 = .ok (.dup, 1) := by decide +kernel
theorem dn_BK_39 : decode bn_BK 39 = .ok (.aload_n 0, 1) := by decide +kernel
theorem dn_BK_40 : decode bn_BK 40 = .ok (.getfield 12, 3) := by decide +kernel
theorem dn_BK_43 : decode bn_BK 43 = .ok (.iload_n 1, 1) := by decide +kernel
theorem dn_BK_44 : decode bn_BK 44 = .ok (.invokespecial 22, 3) := by decide +kernel
theorem dn_BK_47 : decode bn_BK 47 = .ok (.aastore, 1) := by decide +kernel
theorem dn_BK_48 : decode bn_BK 48 = .ok (.iinc 1 (1), 3) := by decide +kernel
theorem dn_BK_51 : decode bn_BK 51 = .ok (.goto (-26), 3) := by decide +kernel
theorem dn_BK_54 : decode bn_BK 54 = .ok (.return_, 1) := by decide +kernel
abbrev bn_Model : ByteArray := prog_8_method_1_code
def yn_Model : MethodName := ⟨R_Model, "<init>", "()V"⟩
theorem dn_Model_0 : decode bn_Model 0 = .ok (.aload_n 0, 1) := by decide +kernel
theorem dn_Model_1 : decode bn_Model 1 = .ok (.invokespecial 1, 3) := by decide +kernel
theorem dn_Model_4 : decode bn_Model 4 = .ok (.aload_n 0, 1) := by decide +kernel
theorem dn_Model_5 : decode bn_Model 5 = .ok (.sipush 288, 3) := by decide +kernel
theorem dn_Model_8 : decode bn_Model 8 = .ok (.newarray .int, 2) := by decide +kernel
theorem dn_Model_10 : decode bn_Model 10 = .ok (.putfield 7, 3) := by decide +kernel
theorem dn_Model_13 : decode bn_Model 13 = .ok (.aload_n 0, 1) := by decide +kernel
theorem dn_Model_14 : decode bn_Model 14 = .ok (.bipush 12, 2) := by decide +kernel
theorem dn_Model_16 : decode bn_Model 16 = .ok (.newarray .int, 2) := by decide +kernel
theorem dn_Model_18 : decode bn_Model 18 = .ok (.putfield 13, 3) := by decide +kernel
theorem dn_Model_21 : decode bn_Model 21 = .ok (.aload_n 0, 1) := by decide +kernel
theorem dn_Model_22 : decode bn_Model 22 = .ok (.bipush 6, 2) := by decide +kernel
theorem dn_Model_24 : decode bn_Model 24 = .ok (.newarray .int, 2) := by decide +kernel
theorem dn_Model_26 : decode bn_Model 26 = .ok (.putfield 16, 3) := by decide +kernel
theorem dn_Model_29 : decode bn_Model 29 = .ok (.aload_n 0, 1) := by decide +kernel
theorem dn_Model_30 : decode bn_Model 30 = .ok (.bipush 6, 2) := by decide +kernel
theorem dn_Model_32 : decode bn_Model 32 = .ok (.newarray .boolean, 2) := by decide +kernel
theorem dn_Model_34 : decode bn_Model 34 = .ok (.putfield 19, 3) := by decide +kernel
theorem dn_Model_37 : decode bn_Model 37 = .ok (.aload_n 0, 1) := by decide +kernel
theorem dn_Model_38 : decode bn_Model 38 = .ok (.iconst 2, 1) := by decide +kernel
theorem dn_Model_39 : decode bn_Model 39 = .ok (.newarray .int, 2) := by decide +kernel
theorem dn_Model_41 : decode bn_Model 41 = .ok (.putfield 23, 3) := by decide +kernel
theorem dn_Model_44 : decode bn_Model 44 = .ok (.aload_n 0, 1) := by decide +kernel
theorem dn_Model_45 : decode bn_Model 45 = .ok (.iconst 2, 1) := by decide +kernel
theorem dn_Model_46 : decode bn_Model 46 = .ok (.newarray .int, 2) := by decide +kernel
theorem dn_Model_48 : decode bn_Model 48 = .ok (.putfield 26, 3) := by decide +kernel
theorem dn_Model_51 : decode bn_Model 51 = .ok (.aload_n 0, 1) := by decide +kernel
theorem dn_Model_52 : decode bn_Model 52 = .ok (.iconst 2, 1) := by decide +kernel
theorem dn_Model_53 : decode bn_Model 53 = .ok (.newarray .int, 2) := by decide +kernel
theorem dn_Model_55 : decode bn_Model 55 = .ok (.putfield 29, 3) := by decide +kernel
theorem dn_Model_58 : decode bn_Model 58 = .ok (.aload_n 0, 1) := by decide +kernel
theorem dn_Model_59 : decode bn_Model 59 = .ok (.bipush 120, 2) := by decide +kernel
theorem dn_Model_61 : decode bn_Model 61 = .ok (.newarray .boolean, 2) := by decide +kernel
theorem dn_Model_63 : decode bn_Model 63 = .ok (.putfield 32, 3) := by decide +kernel
theorem dn_Model_66 : decode bn_Model 66 = .ok (.aload_n 0, 1) := by decide +kernel
theorem dn_Model_67 : decode bn_Model 67 = .ok (.bipush 120, 2) := by decide +kernel
theorem dn_Model_69 : decode bn_Model 69 = .ok (.newarray .int, 2) := by decide +kernel
theorem dn_Model_71 : decode bn_Model 71 = .ok (.putfield 35, 3) := by decide +kernel
theorem dn_Model_74 : decode bn_Model 74 = .ok (.aload_n 0, 1) := by decide +kernel
theorem dn_Model_75 : decode bn_Model 75 = .ok (.bipush 120, 2) := by decide +kernel
theorem dn_Model_77 : decode bn_Model 77 = .ok (.newarray .int, 2) := by decide +kernel
theorem dn_Model_79 : decode bn_Model 79 = .ok (.putfield 38, 3) := by decide +kernel
theorem dn_Model_82 : decode bn_Model 82 = .ok (.aload_n 0, 1) := by decide +kernel
theorem dn_Model_83 : decode bn_Model 83 = .ok (.sipush 480, 3) := by decide +kernel
theorem dn_Model_86 : decode bn_Model 86 = .ok (.newarray .int, 2) := by decide +kernel
theorem dn_Model_88 : decode bn_Model 88 = .ok (.putfield 41, 3) := by decide +kernel
theorem dn_Model_91 : decode bn_Model 91 = .ok (.return_, 1) := by decide +kernel
abbrev bn_App : ByteArray := prog_2_method_1_code
def yn_App : MethodName := ⟨R_App, "<init>", "(LBindingKernel$Kernel;I)V"⟩
theorem dn_App_0 : decode bn_App 0 = .ok (.aload_n 0, 1) := by decide +kernel
theorem dn_App_1 : decode bn_App 1 = .ok (.invokespecial 3, 3) := by decide +kernel
theorem dn_App_4 : decode bn_App 4 = .ok (.aload_n 0, 1) := by decide +kernel
theorem dn_App_5 : decode bn_App 5 = .ok (.bipush 6, 2) := by decide +kernel
theorem dn_App_7 : decode bn_App 7 = .ok (.newarray .int, 2) := by decide +kernel
theorem dn_App_9 : decode bn_App 9 = .ok (.putfield 9, 3) := by decide +kernel
theorem dn_App_12 : decode bn_App 12 = .ok (.aload_n 0, 1) := by decide +kernel
theorem dn_App_13 : decode bn_App 13 = .ok (.bipush 36, 2) := by decide +kernel
theorem dn_App_15 : decode bn_App 15 = .ok (.newarray .int, 2) := by decide +kernel
theorem dn_App_17 : decode bn_App 17 = .ok (.putfield 15, 3) := by decide +kernel
theorem dn_App_20 : decode bn_App 20 = .ok (.aload_n 0, 1) := by decide +kernel
theorem dn_App_21 : decode bn_App 21 = .ok (.iconst 3, 1) := by decide +kernel
theorem dn_App_22 : decode bn_App 22 = .ok (.anewarray 18, 3) := by decide +kernel
theorem dn_App_25 : decode bn_App 25 = .ok (.putfield 20, 3) := by decide +kernel
theorem dn_App_28 : decode bn_App 28 = .ok (.aload_n 0, 1) := by decide +kernel
theorem dn_App_29 : decode bn_App 29 = .ok (.aload_n 1, 1) := by decide +kernel
theorem dn_App_30 : decode bn_App 30 = .ok (.putfield 24, 3) := by decide +kernel
theorem dn_App_33 : decode bn_App 33 = .ok (.aload_n 0, 1) := by decide +kernel
theorem dn_App_34 : decode bn_App 34 = .ok (.iload_n 2, 1) := by decide +kernel
theorem dn_App_35 : decode bn_App 35 = .ok (.putfield 28, 3) := by decide +kernel
theorem dn_App_38 : decode bn_App 38 = .ok (.aload_n 0, 1) := by decide +kernel
theorem dn_App_39 : decode bn_App 39 = .ok (.getfield 15, 3) := by decide +kernel
theorem dn_App_42 : decode bn_App 42 = .ok (.iconst (-1), 1) := by decide +kernel
theorem dn_App_43 : decode bn_App 43 = .ok (.invokestatic 32, 3) := by decide +kernel
theorem dn_App_46 : decode bn_App 46 = .ok (.iconst 0, 1) := by decide +kernel
theorem dn_App_47 : decode bn_App 47 = .ok (.istore_n 3, 1) := by decide +kernel
theorem dn_App_48 : decode bn_App 48 = .ok (.iload_n 3, 1) := by decide +kernel
theorem dn_App_49 : decode bn_App 49 = .ok (.aload_n 0, 1) := by decide +kernel
theorem dn_App_50 : decode bn_App 50 = .ok (.getfield 20, 3) := by decide +kernel
theorem dn_App_53 : decode bn_App 53 = .ok (.arraylength, 1) := by decide +kernel
theorem dn_App_54 : decode bn_App 54 = .ok (.if_icmp .ge (22), 3) := by decide +kernel
theorem dn_App_57 : decode bn_App 57 = .ok (.aload_n 0, 1) := by decide +kernel
theorem dn_App_58 : decode bn_App 58 = .ok (.getfield 20, 3) := by decide +kernel
theorem dn_App_61 : decode bn_App 61 = .ok (.iload_n 3, 1) := by decide +kernel
theorem dn_App_62 : decode bn_App 62 = .ok (.new 18, 3) := by decide +kernel
theorem dn_App_65 : decode bn_App 65 = .ok (.dup, 1) := by decide +kernel
theorem dn_App_66 : decode bn_App 66 = .ok (.invokespecial 38, 3) := by decide +kernel
theorem dn_App_69 : decode bn_App 69 = .ok (.aastore, 1) := by decide +kernel
theorem dn_App_70 : decode bn_App 70 = .ok (.iinc 3 (1), 3) := by decide +kernel
theorem dn_App_73 : decode bn_App 73 = .ok (.goto (-25), 3) := by decide +kernel
theorem dn_App_76 : decode bn_App 76 = .ok (.return_, 1) := by decide +kernel
abbrev bn_Guest : ByteArray := prog_3_method_1_code
def yn_Guest : MethodName := ⟨R_Guest, "<init>", "(LBindingKernel$Pool;LBindingKernel$Pool;)V"⟩
theorem dn_Guest_0 : decode bn_Guest 0 = .ok (.aload_n 0, 1) := by decide +kernel
theorem dn_Guest_1 : decode bn_Guest 1 = .ok (.invokespecial 3, 3) := by decide +kernel
theorem dn_Guest_4 : decode bn_Guest 4 = .ok (.aload_n 0, 1) := by decide +kernel
theorem dn_Guest_5 : decode bn_Guest 5 = .ok (.bipush 60, 2) := by decide +kernel
theorem dn_Guest_7 : decode bn_Guest 7 = .ok (.newarray .boolean, 2) := by decide +kernel
theorem dn_Guest_9 : decode bn_Guest 9 = .ok (.putfield 9, 3) := by decide +kernel
theorem dn_Guest_12 : decode bn_Guest 12 = .ok (.aload_n 0, 1) := by decide +kernel
theorem dn_Guest_13 : decode bn_Guest 13 = .ok (.bipush 60, 2) := by decide +kernel
theorem dn_Guest_15 : decode bn_Guest 15 = .ok (.newarray .int, 2) := by decide +kernel
theorem dn_Guest_17 : decode bn_Guest 17 = .ok (.putfield 15, 3) := by decide +kernel
theorem dn_Guest_20 : decode bn_Guest 20 = .ok (.aload_n 0, 1) := by decide +kernel
theorem dn_Guest_21 : decode bn_Guest 21 = .ok (.bipush 60, 2) := by decide +kernel
theorem dn_Guest_23 : decode bn_Guest 23 = .ok (.newarray .int, 2) := by decide +kernel
theorem dn_Guest_25 : decode bn_Guest 25 = .ok (.putfield 19, 3) := by decide +kernel
theorem dn_Guest_28 : decode bn_Guest 28 = .ok (.aload_n 0, 1) := by decide +kernel
theorem dn_Guest_29 : decode bn_Guest 29 = .ok (.bipush 60, 2) := by decide +kernel
theorem dn_Guest_31 : decode bn_Guest 31 = .ok (.newarray .int, 2) := by decide +kernel
theorem dn_Guest_33 : decode bn_Guest 33 = .ok (.putfield 22, 3) := by decide +kernel
theorem dn_Guest_36 : decode bn_Guest 36 = .ok (.aload_n 0, 1) := by decide +kernel
theorem dn_Guest_37 : decode bn_Guest 37 = .ok (.aload_n 1, 1) := by decide +kernel
theorem dn_Guest_38 : decode bn_Guest 38 = .ok (.putfield 25, 3) := by decide +kernel
theorem dn_Guest_41 : decode bn_Guest 41 = .ok (.aload_n 0, 1) := by decide +kernel
theorem dn_Guest_42 : decode bn_Guest 42 = .ok (.aload_n 2, 1) := by decide +kernel
theorem dn_Guest_43 : decode bn_Guest 43 = .ok (.putfield 29, 3) := by decide +kernel
theorem dn_Guest_46 : decode bn_Guest 46 = .ok (.return_, 1) := by decide +kernel
abbrev bn_Kernel : ByteArray := prog_4_method_1_code
def yn_Kernel : MethodName := ⟨R_Kernel, "<init>", "()V"⟩
theorem dn_Kernel_0 : decode bn_Kernel 0 = .ok (.aload_n 0, 1) := by decide +kernel
theorem dn_Kernel_1 : decode bn_Kernel 1 = .ok (.invokespecial 3, 3) := by decide +kernel
theorem dn_Kernel_4 : decode bn_Kernel 4 = .ok (.aload_n 0, 1) := by decide +kernel
theorem dn_Kernel_5 : decode bn_Kernel 5 = .ok (.new 9, 3) := by decide +kernel
theorem dn_Kernel_8 : decode bn_Kernel 8 = .ok (.dup, 1) := by decide +kernel
theorem dn_Kernel_9 : decode bn_Kernel 9 = .ok (.bipush 12, 2) := by decide +kernel
theorem dn_Kernel_11 : decode bn_Kernel 11 = .ok (.iconst 3, 1) := by decide +kernel
theorem dn_Kernel_12 : decode bn_Kernel 12 = .ok (.invokespecial 11, 3) := by decide +kernel
theorem dn_Kernel_15 : decode bn_Kernel 15 = .ok (.putfield 14, 3) := by decide +kernel
theorem dn_Kernel_18 : decode bn_Kernel 18 = .ok (.aload_n 0, 1) := by decide +kernel
theorem dn_Kernel_19 : decode bn_Kernel 19 = .ok (.new 9, 3) := by decide +kernel
theorem dn_Kernel_22 : decode bn_Kernel 22 = .ok (.dup, 1) := by decide +kernel
theorem dn_Kernel_23 : decode bn_Kernel 23 = .ok (.bipush 24, 2) := by decide +kernel
theorem dn_Kernel_25 : decode bn_Kernel 25 = .ok (.bipush 6, 2) := by decide +kernel
theorem dn_Kernel_27 : decode bn_Kernel 27 = .ok (.invokespecial 11, 3) := by decide +kernel
theorem dn_Kernel_30 : decode bn_Kernel 30 = .ok (.putfield 20, 3) := by decide +kernel
theorem dn_Kernel_33 : decode bn_Kernel 33 = .ok (.aload_n 0, 1) := by decide +kernel
theorem dn_Kernel_34 : decode bn_Kernel 34 = .ok (.new 23, 3) := by decide +kernel
theorem dn_Kernel_37 : decode bn_Kernel 37 = .ok (.dup, 1) := by decide +kernel
theorem dn_Kernel_38 : decode bn_Kernel 38 = .ok (.aload_n 0, 1) := by decide +kernel
theorem dn_Kernel_39 : decode bn_Kernel 39 = .ok (.getfield 14, 3) := by decide +kernel
theorem dn_Kernel_42 : decode bn_Kernel 42 = .ok (.aload_n 0, 1) := by decide +kernel
theorem dn_Kernel_43 : decode bn_Kernel 43 = .ok (.getfield 20, 3) := by decide +kernel
theorem dn_Kernel_46 : decode bn_Kernel 46 = .ok (.invokespecial 25, 3) := by decide +kernel
theorem dn_Kernel_49 : decode bn_Kernel 49 = .ok (.putfield 28, 3) := by decide +kernel
theorem dn_Kernel_52 : decode bn_Kernel 52 = .ok (.aload_n 0, 1) := by decide +kernel
theorem dn_Kernel_53 : decode bn_Kernel 53 = .ok (.new 23, 3) := by decide +kernel
theorem dn_Kernel_56 : decode bn_Kernel 56 = .ok (.dup, 1) := by decide +kernel
theorem dn_Kernel_57 : decode bn_Kernel 57 = .ok (.aload_n 0, 1) := by decide +kernel
theorem dn_Kernel_58 : decode bn_Kernel 58 = .ok (.getfield 14, 3) := by decide +kernel
theorem dn_Kernel_61 : decode bn_Kernel 61 = .ok (.aload_n 0, 1) := by decide +kernel
theorem dn_Kernel_62 : decode bn_Kernel 62 = .ok (.getfield 20, 3) := by decide +kernel
theorem dn_Kernel_65 : decode bn_Kernel 65 = .ok (.invokespecial 25, 3) := by decide +kernel
theorem dn_Kernel_68 : decode bn_Kernel 68 = .ok (.putfield 32, 3) := by decide +kernel
theorem dn_Kernel_71 : decode bn_Kernel 71 = .ok (.return_, 1) := by decide +kernel
abbrev bn_Pool : ByteArray := prog_5_method_1_code
def yn_Pool : MethodName := ⟨R_Pool, "<init>", "(II)V"⟩
theorem dn_Pool_0 : decode bn_Pool 0 = .ok (.aload_n 0, 1) := by decide +kernel
theorem dn_Pool_1 : decode bn_Pool 1 = .ok (.invokespecial 3, 3) := by decide +kernel
theorem dn_Pool_4 : decode bn_Pool 4 = .ok (.aload_n 0, 1) := by decide +kernel
theorem dn_Pool_5 : decode bn_Pool 5 = .ok (.iload_n 2, 1) := by decide +kernel
theorem dn_Pool_6 : decode bn_Pool 6 = .ok (.putfield 9, 3) := by decide +kernel
theorem dn_Pool_9 : decode bn_Pool 9 = .ok (.aload_n 0, 1) := by decide +kernel
theorem dn_Pool_10 : decode bn_Pool 10 = .ok (.iload_n 1, 1) := by decide +kernel
theorem dn_Pool_11 : decode bn_Pool 11 = .ok (.newarray .int, 2) := by decide +kernel
theorem dn_Pool_13 : decode bn_Pool 13 = .ok (.putfield 15, 3) := by decide +kernel
theorem dn_Pool_16 : decode bn_Pool 16 = .ok (.aload_n 0, 1) := by decide +kernel
theorem dn_Pool_17 : decode bn_Pool 17 = .ok (.iload_n 1, 1) := by decide +kernel
theorem dn_Pool_18 : decode bn_Pool 18 = .ok (.iconst 4, 1) := by decide +kernel
theorem dn_Pool_19 : decode bn_Pool 19 = .ok (.imul, 1) := by decide +kernel
theorem dn_Pool_20 : decode bn_Pool 20 = .ok (.newarray .int, 2) := by decide +kernel
theorem dn_Pool_22 : decode bn_Pool 22 = .ok (.putfield 19, 3) := by decide +kernel
theorem dn_Pool_25 : decode bn_Pool 25 = .ok (.aload_n 0, 1) := by decide +kernel
theorem dn_Pool_26 : decode bn_Pool 26 = .ok (.getfield 15, 3) := by decide +kernel
theorem dn_Pool_29 : decode bn_Pool 29 = .ok (.iconst (-1), 1) := by decide +kernel
theorem dn_Pool_30 : decode bn_Pool 30 = .ok (.invokestatic 22, 3) := by decide +kernel
theorem dn_Pool_33 : decode bn_Pool 33 = .ok (.return_, 1) := by decide +kernel
abbrev bn_Slot : ByteArray := prog_6_method_1_code
def yn_Slot : MethodName := ⟨R_Slot, "<init>", "()V"⟩
theorem dn_Slot_0 : decode bn_Slot 0 = .ok (.aload_n 0, 1) := by decide +kernel
theorem dn_Slot_1 : decode bn_Slot 1 = .ok (.invokespecial 3, 3) := by decide +kernel
theorem dn_Slot_4 : decode bn_Slot 4 = .ok (.aload_n 0, 1) := by decide +kernel
theorem dn_Slot_5 : decode bn_Slot 5 = .ok (.iconst (-1), 1) := by decide +kernel
theorem dn_Slot_6 : decode bn_Slot 6 = .ok (.putfield 9, 3) := by decide +kernel
theorem dn_Slot_9 : decode bn_Slot 9 = .ok (.aload_n 0, 1) := by decide +kernel
theorem dn_Slot_10 : decode bn_Slot 10 = .ok (.iconst (-1), 1) := by decide +kernel
theorem dn_Slot_11 : decode bn_Slot 11 = .ok (.putfield 15, 3) := by decide +kernel
theorem dn_Slot_14 : decode bn_Slot 14 = .ok (.return_, 1) := by decide +kernel
theorem kn_up2 (a b : Nat) : va_up (va_up (fun _ => none) 0 (some a)) 1 (some b) = fun j => [some a, some b].getD j none := by
  funext j
  match j with
  | 0 => rfl
  | 1 => rfl
  | n + 2 => rfl
theorem kn_up3 (a b c : Nat) : va_up (va_up (va_up (fun _ => none) 0 (some a)) 1 (some b)) 2 (some c) = fun j => [some a, some b, some c].getD j none := by
  funext j
  match j with
  | 0 => rfl
  | 1 => rfl
  | 2 => rfl
  | n + 3 => rfl
/-- the words that an application's constructor wants beside the tables' -/
def kn_eA (U : State) : Prop := va_AO R_Slot U ∧ va_Nw (.methodLinkNest R_App 38 yn_Slot "BindingKernel") U
theorem kn_eA_ok : kn_ex kn_eA := ⟨fun U g mk a h => ⟨va_AO.moved (Vm.Alike.refl U.vm) h.1, va_tabs (u := U) rfl rfl h.2⟩, fun s U hW h => ⟨va_AO.moved hW.alike h.1, va_Nw.warmM hW h.2⟩⟩
def kn_eB (U : State) : Prop := kn_eA U ∧ va_AO R_App U ∧ va_Nw (.methodLinkNest R_BK 11 yn_Kernel "BindingKernel") U
theorem kn_eB_ok : kn_ex kn_eB := ⟨fun U g mk a h => ⟨kn_eA_ok.1 U g mk a h.1, va_AO.moved (Vm.Alike.refl U.vm) h.2.1, va_tabs (u := U) rfl rfl h.2.2⟩, fun s U hW h => ⟨kn_eA_ok.2 s U hW h.1, va_AO.moved hW.alike h.2.1, va_Nw.warmM hW h.2.2⟩⟩
