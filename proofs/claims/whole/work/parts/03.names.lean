/-! names: printed by wip/whole/gen_names.py; pool numbers, code names and program counters stand here alone -/
def R_BK : String := "BindingKernel"
def F_BK : u_T := fun k => match k with
  | 0 => ("BindingKernel", "kernel", "LBindingKernel$Kernel;", true)
  | _ => ("BindingKernel", "applications", "[LBindingKernel$Application;", true)
def t_BK : Nat → FieldType := fun k => match k with
  | 0 => .object "BindingKernel$Kernel"
  | _ => .array (.object "BindingKernel$Application")
def R_Kernel : String := "BindingKernel$Kernel"
def F_Kernel : u_T := fun k => match k with
  | 0 => ("BindingKernel$Kernel", "now", "I", false)
  | 1 => ("BindingKernel$Kernel", "frames", "LBindingKernel$Pool;", true)
  | 2 => ("BindingKernel$Kernel", "blocks", "LBindingKernel$Pool;", true)
  | 3 => ("BindingKernel$Kernel", "firstGuest", "LBindingKernel$Guest;", true)
  | _ => ("BindingKernel$Kernel", "secondGuest", "LBindingKernel$Guest;", true)
def t_Kernel : Nat → FieldType := fun k => match k with
  | 0 => .int
  | 1 => .object "BindingKernel$Pool"
  | 2 => .object "BindingKernel$Pool"
  | 3 => .object "BindingKernel$Guest"
  | _ => .object "BindingKernel$Guest"
def R_Pool : String := "BindingKernel$Pool"
def F_Pool : u_T := fun k => match k with
  | 0 => ("BindingKernel$Pool", "share", "I", true)
  | 1 => ("BindingKernel$Pool", "holders", "[I", true)
  | _ => ("BindingKernel$Pool", "words", "[I", true)
def t_Pool : Nat → FieldType := fun k => match k with
  | 0 => .int
  | 1 => .array .int
  | _ => .array .int
def R_Guest : String := "BindingKernel$Guest"
def F_Guest : u_T := fun k => match k with
  | 0 => ("BindingKernel$Guest", "lossCount", "I", false)
  | 1 => ("BindingKernel$Guest", "frames", "LBindingKernel$Pool;", true)
  | 2 => ("BindingKernel$Guest", "blocks", "LBindingKernel$Pool;", true)
  | 3 => ("BindingKernel$Guest", "ofBlocks", "[Z", true)
  | 4 => ("BindingKernel$Guest", "resources", "[I", true)
  | 5 => ("BindingKernel$Guest", "states", "[I", true)
  | 6 => ("BindingKernel$Guest", "deadlines", "[I", true)
  | _ => ("BindingKernel$Guest", "ticketCount", "I", false)
def t_Guest : Nat → FieldType := fun k => match k with
  | 0 => .int
  | 1 => .object "BindingKernel$Pool"
  | 2 => .object "BindingKernel$Pool"
  | 3 => .array .boolean
  | 4 => .array .int
  | 5 => .array .int
  | 6 => .array .int
  | _ => .int
def R_App : String := "BindingKernel$Application"
def F_App : u_T := fun k => match k with
  | 0 => ("BindingKernel$Application", "loadCount", "I", false)
  | 1 => ("BindingKernel$Application", "storeCount", "I", false)
  | 2 => ("BindingKernel$Application", "kernel", "LBindingKernel$Kernel;", true)
  | 3 => ("BindingKernel$Application", "environment", "I", true)
  | 4 => ("BindingKernel$Application", "lengths", "[I", true)
  | 5 => ("BindingKernel$Application", "partBlocks", "[I", true)
  | 6 => ("BindingKernel$Application", "slots", "[LBindingKernel$Slot;", true)
  | _ => ("BindingKernel$Application", "useCount", "I", false)
def t_App : Nat → FieldType := fun k => match k with
  | 0 => .int
  | 1 => .int
  | 2 => .object "BindingKernel$Kernel"
  | 3 => .int
  | 4 => .array .int
  | 5 => .array .int
  | 6 => .array (.object "BindingKernel$Slot")
  | _ => .int
def R_Slot : String := "BindingKernel$Slot"
def F_Slot : u_T := fun k => match k with
  | 0 => ("BindingKernel$Slot", "frame", "I", false)
  | 1 => ("BindingKernel$Slot", "part", "I", false)
  | 2 => ("BindingKernel$Slot", "lastUse", "I", false)
  | _ => ("BindingKernel$Slot", "changed", "Z", false)
def t_Slot : Nat → FieldType := fun k => match k with
  | 0 => .int
  | 1 => .int
  | 2 => .int
  | _ => .boolean
def R_Model : String := "BindingKernelModel"
def F_Model : u_T := fun k => match k with
  | 0 => ("BindingKernelModel", "now", "I", false)
  | 1 => ("BindingKernelModel", "storedCount", "I", false)
  | 2 => ("BindingKernelModel", "loadedCount", "I", false)
  | 3 => ("BindingKernelModel", "words", "[I", false)
  | 4 => ("BindingKernelModel", "size", "[I", false)
  | 5 => ("BindingKernelModel", "cached", "[I", false)
  | 6 => ("BindingKernelModel", "changed", "[Z", false)
  | 7 => ("BindingKernelModel", "frames", "[I", false)
  | 8 => ("BindingKernelModel", "bound", "[I", false)
  | 9 => ("BindingKernelModel", "lost", "[I", false)
  | 10 => ("BindingKernelModel", "isBlock", "[Z", false)
  | 11 => ("BindingKernelModel", "state", "[I", false)
  | 12 => ("BindingKernelModel", "deadline", "[I", false)
  | _ => ("BindingKernelModel", "held", "[I", false)
def t_Model : Nat → FieldType := fun k => match k with
  | 0 => .int
  | 1 => .int
  | 2 => .int
  | 3 => .array .int
  | 4 => .array .int
  | 5 => .array .int
  | 6 => .array .boolean
  | 7 => .array .int
  | 8 => .array .int
  | 9 => .array .int
  | 10 => .array .boolean
  | 11 => .array .int
  | 12 => .array .int
  | _ => .array .int
abbrev kb_cl : List vw_C := [(R_BK, F_BK, 2), (R_Kernel, F_Kernel, 5), (R_Pool, F_Pool, 3), (R_Guest, F_Guest, 8), (R_App, F_App, 8), (R_Slot, F_Slot, 4), (R_Model, F_Model, 14)]
def kb_cn (o : Nat) : String := match o with
  | 0 => R_BK
  | 1 => R_Kernel
  | 2 => R_Pool
  | 3 => R_Guest
  | 4 => R_App
  | 5 => R_Slot
  | 6 => R_Model
  | _ => ""
def kb_ty (cA : Nat → ClassId) : List (ClassId × FieldType) := [(cA 0, .int), (cA 1, .boolean), (cA 2, .object R_Slot), (cA 3, .object R_App)]
def kb_n : Nat := 45
def kb_ceL : List (Nat × kb_sh) := [(0, .inr (0, [some (some 1), some (some 2)])), (1, .inr (1, [none, some (some 3), some (some 6), some (some 9), some (some 14)])), (2, .inl (3, 2, [some 19, some 26])), (3, .inr (2, [none, some (some 4), some (some 5)])), (4, .inl (0, 12, [])), (5, .inl (0, 48, [])), (6, .inr (2, [none, some (some 7), some (some 8)])), (7, .inl (0, 24, [])), (8, .inl (0, 96, [])), (9, .inr (3, [none, some (some 3), some (some 6), some (some 10), some (some 11), some (some 12), some (some 13), none])), (10, .inl (1, 60, [])), (11, .inl (0, 60, [])), (12, .inl (0, 60, [])), (13, .inl (0, 60, [])), (14, .inr (3, [none, some (some 3), some (some 6), some (some 15), some (some 16), some (some 17), some (some 18), none])), (15, .inl (1, 60, [])), (16, .inl (0, 60, [])), (17, .inl (0, 60, [])), (18, .inl (0, 60, [])), (19, .inr (4, [none, none, some (some 1), none, some (some 20), some (some 21), some (some 22), none])), (20, .inl (0, 6, [])), (21, .inl (0, 36, [])), (22, .inl (2, 3, [some 23, some 24, some 25])), (23, .inr (5, [none, none, none, none])), (24, .inr (5, [none, none, none, none])), (25, .inr (5, [none, none, none, none])), (26, .inr (4, [none, none, some (some 1), none, some (some 27), some (some 28), some (some 29), none])), (27, .inl (0, 6, [])), (28, .inl (0, 36, [])), (29, .inl (2, 3, [some 30, some 31, some 32])), (30, .inr (5, [none, none, none, none])), (31, .inr (5, [none, none, none, none])), (32, .inr (5, [none, none, none, none])), (33, .inr (6, [none, none, none, some (some 34), some (some 35), some (some 36), some (some 37), some (some 38), some (some 39), some (some 40), some (some 41), some (some 42), some (some 43), some (some 44)])), (34, .inl (0, 288, [])), (35, .inl (0, 12, [])), (36, .inl (0, 6, [])), (37, .inl (1, 6, [])), (38, .inl (0, 2, [])), (39, .inl (0, 2, [])), (40, .inl (0, 2, [])), (41, .inl (1, 120, [])), (42, .inl (0, 120, [])), (43, .inl (0, 120, [])), (44, .inl (0, 480, []))]
def kb_cel (k : Nat) : Option kb_sh := kb_lk kb_ceL k
def kb_ceB (q : Nat × kb_sh) : Bool := Nat.blt q.1 kb_n && (match q.2 with | .inl (u, _, _) => Nat.blt u 4 | .inr _ => true)
theorem kb_ceP : kb_ceL.all kb_ceB = true := by decide +kernel
theorem kb_celA {k u n : Nat} {rs : List (Option Nat)} (h : kb_cel k = some (.inl (u, n, rs))) : k < kb_n ∧ u < 4 := by
  have h1 := List.all_eq_true.mp kb_ceP _ (kb_lk_mem h)
  unfold kb_ceB at h1
  rw [Bool.and_eq_true] at h1
  exact ⟨Nat.le_of_ble_eq_true h1.1, Nat.le_of_ble_eq_true h1.2⟩
theorem kb_celO {k : Nat} {q : Nat × List (Option (Option Nat))} (h : kb_cel k = some (.inr q)) : k < kb_n := by
  have h1 := List.all_eq_true.mp kb_ceP _ (kb_lk_mem h)
  unfold kb_ceB at h1
  rw [Bool.and_eq_true] at h1
  exact Nat.le_of_ble_eq_true h1.1
theorem kb_tyU (cA : Nat → ClassId) {u : Nat} (h : u < 4) : ∃ ty, (kb_ty cA)[u]? = some (cA u, ty) := by
  match u, h with
  | 0, _ => exact ⟨_, rfl⟩
  | 1, _ => exact ⟨_, rfl⟩
  | 2, _ => exact ⟨_, rfl⟩
  | 3, _ => exact ⟨_, rfl⟩
theorem kb_tyR (cA : Nat → ClassId) {u : Nat} (h : u < 4) (h2 : Nat.ble 2 u = true) : ∃ N, (kb_ty cA)[u]? = some (cA u, .object N) := by
  match u, h, h2 with
  | 2, _, _ => exact ⟨_, rfl⟩
  | 3, _, _ => exact ⟨_, rfl⟩
def kb_all : List Cond := lw_tbl.filter goodWord
theorem kb_all_in {w : Cond} (h : w ∈ lw_tbl) (hg : goodWord w = true) : w ∈ kb_all := List.mem_filter.mpr ⟨h, hg⟩
set_option maxRecDepth 100000 in
theorem u_BK : ∀ w ∈ u_ws R_BK F_BK 2, w ∈ kb_all := by
  intro w hw
  obtain ⟨k, hk, rfl⟩ := List.mem_map.mp hw
  have hk := List.mem_range.mp hk
  match k, hk with
  | 0, _ => exact kb_all_in (List.mem_of_getElem? (i := 193) rfl) rfl
  | 1, _ => exact kb_all_in (List.mem_of_getElem? (i := 195) rfl) rfl
set_option maxRecDepth 100000 in
theorem u_Kernel : ∀ w ∈ u_ws R_Kernel F_Kernel 5, w ∈ kb_all := by
  intro w hw
  obtain ⟨k, hk, rfl⟩ := List.mem_map.mp hw
  have hk := List.mem_range.mp hk
  match k, hk with
  | 0, _ => exact kb_all_in (List.mem_of_getElem? (i := 123) rfl) rfl
  | 1, _ => exact kb_all_in (List.mem_of_getElem? (i := 125) rfl) rfl
  | 2, _ => exact kb_all_in (List.mem_of_getElem? (i := 127) rfl) rfl
  | 3, _ => exact kb_all_in (List.mem_of_getElem? (i := 129) rfl) rfl
  | 4, _ => exact kb_all_in (List.mem_of_getElem? (i := 131) rfl) rfl
set_option maxRecDepth 100000 in
theorem u_Pool : ∀ w ∈ u_ws R_Pool F_Pool 3, w ∈ kb_all := by
  intro w hw
  obtain ⟨k, hk, rfl⟩ := List.mem_map.mp hw
  have hk := List.mem_range.mp hk
  match k, hk with
  | 0, _ => exact kb_all_in (List.mem_of_getElem? (i := 74) rfl) rfl
  | 1, _ => exact kb_all_in (List.mem_of_getElem? (i := 76) rfl) rfl
  | 2, _ => exact kb_all_in (List.mem_of_getElem? (i := 78) rfl) rfl
set_option maxRecDepth 100000 in
theorem u_Guest : ∀ w ∈ u_ws R_Guest F_Guest 8, w ∈ kb_all := by
  intro w hw
  obtain ⟨k, hk, rfl⟩ := List.mem_map.mp hw
  have hk := List.mem_range.mp hk
  match k, hk with
  | 0, _ => exact kb_all_in (List.mem_of_getElem? (i := 97) rfl) rfl
  | 1, _ => exact kb_all_in (List.mem_of_getElem? (i := 99) rfl) rfl
  | 2, _ => exact kb_all_in (List.mem_of_getElem? (i := 101) rfl) rfl
  | 3, _ => exact kb_all_in (List.mem_of_getElem? (i := 103) rfl) rfl
  | 4, _ => exact kb_all_in (List.mem_of_getElem? (i := 105) rfl) rfl
  | 5, _ => exact kb_all_in (List.mem_of_getElem? (i := 107) rfl) rfl
  | 6, _ => exact kb_all_in (List.mem_of_getElem? (i := 109) rfl) rfl
  | 7, _ => exact kb_all_in (List.mem_of_getElem? (i := 111) rfl) rfl
set_option maxRecDepth 100000 in
theorem u_App : ∀ w ∈ u_ws R_App F_App 8, w ∈ kb_all := by
  intro w hw
  obtain ⟨k, hk, rfl⟩ := List.mem_map.mp hw
  have hk := List.mem_range.mp hk
  match k, hk with
  | 0, _ => exact kb_all_in (List.mem_of_getElem? (i := 174) rfl) rfl
  | 1, _ => exact kb_all_in (List.mem_of_getElem? (i := 176) rfl) rfl
  | 2, _ => exact kb_all_in (List.mem_of_getElem? (i := 178) rfl) rfl
  | 3, _ => exact kb_all_in (List.mem_of_getElem? (i := 180) rfl) rfl
  | 4, _ => exact kb_all_in (List.mem_of_getElem? (i := 182) rfl) rfl
  | 5, _ => exact kb_all_in (List.mem_of_getElem? (i := 184) rfl) rfl
  | 6, _ => exact kb_all_in (List.mem_of_getElem? (i := 186) rfl) rfl
  | 7, _ => exact kb_all_in (List.mem_of_getElem? (i := 188) rfl) rfl
set_option maxRecDepth 100000 in
theorem u_Slot : ∀ w ∈ u_ws R_Slot F_Slot 4, w ∈ kb_all := by
  intro w hw
  obtain ⟨k, hk, rfl⟩ := List.mem_map.mp hw
  have hk := List.mem_range.mp hk
  match k, hk with
  | 0, _ => exact kb_all_in (List.mem_of_getElem? (i := 155) rfl) rfl
  | 1, _ => exact kb_all_in (List.mem_of_getElem? (i := 157) rfl) rfl
  | 2, _ => exact kb_all_in (List.mem_of_getElem? (i := 159) rfl) rfl
  | 3, _ => exact kb_all_in (List.mem_of_getElem? (i := 161) rfl) rfl
set_option maxRecDepth 100000 in
theorem u_Model : ∀ w ∈ u_ws R_Model F_Model 14, w ∈ kb_all := by
  intro w hw
  obtain ⟨k, hk, rfl⟩ := List.mem_map.mp hw
  have hk := List.mem_range.mp hk
  match k, hk with
  | 0, _ => exact kb_all_in (List.mem_of_getElem? (i := 535) rfl) rfl
  | 1, _ => exact kb_all_in (List.mem_of_getElem? (i := 537) rfl) rfl
  | 2, _ => exact kb_all_in (List.mem_of_getElem? (i := 539) rfl) rfl
  | 3, _ => exact kb_all_in (List.mem_of_getElem? (i := 541) rfl) rfl
  | 4, _ => exact kb_all_in (List.mem_of_getElem? (i := 543) rfl) rfl
  | 5, _ => exact kb_all_in (List.mem_of_getElem? (i := 545) rfl) rfl
  | 6, _ => exact kb_all_in (List.mem_of_getElem? (i := 547) rfl) rfl
  | 7, _ => exact kb_all_in (List.mem_of_getElem? (i := 549) rfl) rfl
  | 8, _ => exact kb_all_in (List.mem_of_getElem? (i := 551) rfl) rfl
  | 9, _ => exact kb_all_in (List.mem_of_getElem? (i := 553) rfl) rfl
  | 10, _ => exact kb_all_in (List.mem_of_getElem? (i := 555) rfl) rfl
  | 11, _ => exact kb_all_in (List.mem_of_getElem? (i := 557) rfl) rfl
  | 12, _ => exact kb_all_in (List.mem_of_getElem? (i := 559) rfl) rfl
  | 13, _ => exact kb_all_in (List.mem_of_getElem? (i := 561) rfl) rfl
theorem kb_clok {ci n : Nat} {N : String} {T : u_T} (h : kb_cl[ci]? = some (N, T, n)) : (∃ ty0 : Nat → FieldType, ∀ k, k < n → parseFieldDescriptor (T k).2.2.1 = some (ty0 k)) ∧ (∀ a, a < n → ∀ b, b < n → a ≠ b → (T a).2.1 ≠ (T b).2.1) := by
  match ci, h with
  | 0, h => cases h; exact ⟨⟨t_BK, by decide +kernel⟩, by decide +kernel⟩
  | 1, h => cases h; exact ⟨⟨t_Kernel, by decide +kernel⟩, by decide +kernel⟩
  | 2, h => cases h; exact ⟨⟨t_Pool, by decide +kernel⟩, by decide +kernel⟩
  | 3, h => cases h; exact ⟨⟨t_Guest, by decide +kernel⟩, by decide +kernel⟩
  | 4, h => cases h; exact ⟨⟨t_App, by decide +kernel⟩, by decide +kernel⟩
  | 5, h => cases h; exact ⟨⟨t_Slot, by decide +kernel⟩, by decide +kernel⟩
  | 6, h => cases h; exact ⟨⟨t_Model, by decide +kernel⟩, by decide +kernel⟩
  | n + 7, h => cases h
abbrev kz_BK_append : Nat := 0
def ki_BK_append : List (Nat × Jvm.ClassFile.Instr) := [(0, .aload_n 0), (1, .iload_n 1), (2, .invokevirtual 25), (5, .astore 4), (7, .aload 4), (9, .ifnull (17)), (12, .aload 4), (14, .iload_n 2), (15, .iload_n 3), (16, .invokevirtual 29), (19, .ifCond .eq (7)), (22, .iconst 1), (23, .goto (4)), (26, .iconst 0), (27, .ireturn)]
def ke_BK_append : kb_m := (⟨"BindingKernel", "append", "(III)Z"⟩, prog_1_method_2_code, 5, some .boolean, 0, 3, false, 6, 155, ki_BK_append)
abbrev kz_BK_write : Nat := 1
def ki_BK_write : List (Nat × Jvm.ClassFile.Instr) := [(0, .aload_n 0), (1, .iload_n 1), (2, .invokevirtual 25), (5, .astore 5), (7, .aload 5), (9, .ifnull (19)), (12, .aload 5), (14, .iload_n 2), (15, .iload_n 3), (16, .iload 4), (18, .invokevirtual 33), (21, .ifCond .eq (7)), (24, .iconst 1), (25, .goto (4)), (28, .iconst 0), (29, .ireturn)]
def ke_BK_write : kb_m := (⟨"BindingKernel", "write", "(IIII)Z"⟩, prog_1_method_3_code, 6, some .boolean, 0, 4, false, 6, 155, ki_BK_write)
abbrev kz_BK_read : Nat := 2
def ki_BK_read : List (Nat × Jvm.ClassFile.Instr) := [(0, .aload_n 0), (1, .iload_n 1), (2, .invokevirtual 25), (5, .astore 4), (7, .aload 4), (9, .ifnonnull (7)), (12, .iconst 0), (13, .goto (10)), (16, .aload 4), (18, .iload_n 2), (19, .iload_n 3), (20, .invokevirtual 37), (23, .ireturn)]
def ke_BK_read : kb_m := (⟨"BindingKernel", "read", "(III)I"⟩, prog_1_method_4_code, 5, some .int, 0, 3, false, 6, 155, ki_BK_read)
abbrev kz_BK_length : Nat := 3
def ki_BK_length : List (Nat × Jvm.ClassFile.Instr) := [(0, .aload_n 0), (1, .iload_n 1), (2, .invokevirtual 25), (5, .astore_n 3), (6, .aload_n 3), (7, .ifnonnull (7)), (10, .iconst (-1)), (11, .goto (8)), (14, .aload_n 3), (15, .iload_n 2), (16, .invokevirtual 41), (19, .ireturn)]
def ke_BK_length : kb_m := (⟨"BindingKernel", "length", "(II)I"⟩, prog_1_method_5_code, 4, some .int, 0, 2, false, 2, 41, ki_BK_length)
abbrev kz_BK_erase : Nat := 4
def ki_BK_erase : List (Nat × Jvm.ClassFile.Instr) := [(0, .aload_n 0), (1, .iload_n 1), (2, .invokevirtual 25), (5, .astore_n 3), (6, .aload_n 3), (7, .ifnonnull (7)), (10, .iconst (-1)), (11, .goto (8)), (14, .aload_n 3), (15, .iload_n 2), (16, .invokevirtual 45), (19, .ireturn)]
def ke_BK_erase : kb_m := (⟨"BindingKernel", "erase", "(II)I"⟩, prog_1_method_6_code, 4, some .int, 0, 2, false, 4, 87, ki_BK_erase)
abbrev kz_BK_sync : Nat := 5
def ki_BK_sync : List (Nat × Jvm.ClassFile.Instr) := [(0, .aload_n 0), (1, .iload_n 1), (2, .invokevirtual 25), (5, .astore_n 2), (6, .aload_n 2), (7, .ifnonnull (7)), (10, .iconst (-1)), (11, .goto (7)), (14, .aload_n 2), (15, .invokevirtual 48), (18, .ireturn)]
def ke_BK_sync : kb_m := (⟨"BindingKernel", "sync", "(I)I"⟩, prog_1_method_7_code, 3, some .int, 0, 1, false, 4, 109, ki_BK_sync)
abbrev kz_BK_squeeze : Nat := 6
def ki_BK_squeeze : List (Nat × Jvm.ClassFile.Instr) := [(0, .aload_n 0), (1, .iload_n 1), (2, .invokevirtual 25), (5, .astore_n 2), (6, .aload_n 2), (7, .ifnull (14)), (10, .aload_n 2), (11, .invokevirtual 52), (14, .ifCond .eq (7)), (17, .iconst 1), (18, .goto (4)), (21, .iconst 0), (22, .ireturn)]
def ke_BK_squeeze : kb_m := (⟨"BindingKernel", "squeeze", "(I)Z"⟩, prog_1_method_8_code, 3, some .boolean, 0, 1, false, 4, 105, ki_BK_squeeze)
abbrev kz_BK_bind : Nat := 7
def ki_BK_bind : List (Nat × Jvm.ClassFile.Instr) := [(0, .aload_n 0), (1, .getfield 12), (4, .iload_n 1), (5, .iload_n 2), (6, .invokevirtual 56), (9, .ireturn)]
def ke_BK_bind : kb_m := (⟨"BindingKernel", "bind", "(IZ)I"⟩, prog_1_method_9_code, 3, some .int, 0, 2, false, 4, 109, ki_BK_bind)
abbrev kz_BK_put : Nat := 8
def ki_BK_put : List (Nat × Jvm.ClassFile.Instr) := [(0, .aload_n 0), (1, .getfield 12), (4, .iload_n 1), (5, .invokevirtual 60), (8, .astore 5), (10, .aload 5), (12, .ifnull (19)), (15, .aload 5), (17, .iload_n 2), (18, .iload_n 3), (19, .iload 4), (21, .invokevirtual 64), (24, .ifCond .eq (7)), (27, .iconst 1), (28, .goto (4)), (31, .iconst 0), (32, .ireturn)]
def ke_BK_put : kb_m := (⟨"BindingKernel", "put", "(IIII)Z"⟩, prog_1_method_10_code, 6, some .boolean, 0, 4, false, 4, 89, ki_BK_put)
abbrev kz_BK_get : Nat := 9
def ki_BK_get : List (Nat × Jvm.ClassFile.Instr) := [(0, .aload_n 0), (1, .getfield 12), (4, .iload_n 1), (5, .invokevirtual 60), (8, .astore 4), (10, .aload 4), (12, .ifnonnull (7)), (15, .iconst 0), (16, .goto (10)), (19, .aload 4), (21, .iload_n 2), (22, .iload_n 3), (23, .invokevirtual 69), (26, .ireturn)]
def ke_BK_get : kb_m := (⟨"BindingKernel", "get", "(III)I"⟩, prog_1_method_11_code, 5, some .int, 0, 3, false, 4, 87, ki_BK_get)
abbrev kz_BK_copy : Nat := 10
def ki_BK_copy : List (Nat × Jvm.ClassFile.Instr) := [(0, .aload_n 0), (1, .getfield 12), (4, .iload_n 1), (5, .invokevirtual 60), (8, .astore 4), (10, .aload 4), (12, .ifnull (17)), (15, .aload 4), (17, .iload_n 2), (18, .iload_n 3), (19, .invokevirtual 72), (22, .ifCond .eq (7)), (25, .iconst 1), (26, .goto (4)), (29, .iconst 0), (30, .ireturn)]
def ke_BK_copy : kb_m := (⟨"BindingKernel", "copy", "(III)Z"⟩, prog_1_method_12_code, 5, some .boolean, 0, 3, false, 4, 87, ki_BK_copy)
abbrev kz_BK_release : Nat := 11
def ki_BK_release : List (Nat × Jvm.ClassFile.Instr) := [(0, .aload_n 0), (1, .getfield 12), (4, .iload_n 1), (5, .invokevirtual 60), (8, .astore_n 3), (9, .aload_n 3), (10, .ifnull (15)), (13, .aload_n 3), (14, .iload_n 2), (15, .invokevirtual 75), (18, .ifCond .eq (7)), (21, .iconst 1), (22, .goto (4)), (25, .iconst 0), (26, .ireturn)]
def ke_BK_release : kb_m := (⟨"BindingKernel", "release", "(II)Z"⟩, prog_1_method_13_code, 4, some .boolean, 0, 2, false, 3, 64, ki_BK_release)
abbrev kz_BK_ask : Nat := 12
def ki_BK_ask : List (Nat × Jvm.ClassFile.Instr) := [(0, .aload_n 0), (1, .getfield 12), (4, .iload_n 1), (5, .invokevirtual 60), (8, .astore_n 3), (9, .aload_n 3), (10, .ifnull (24)), (13, .aload_n 3), (14, .iload_n 2), (15, .aload_n 0), (16, .getfield 12), (19, .getfield 79), (22, .iconst 5), (23, .iadd), (24, .invokevirtual 83), (27, .ifCond .eq (7)), (30, .iconst 1), (31, .goto (4)), (34, .iconst 0), (35, .ireturn)]
def ke_BK_ask : kb_m := (⟨"BindingKernel", "ask", "(II)Z"⟩, prog_1_method_14_code, 4, some .boolean, 0, 2, false, 2, 43, ki_BK_ask)
abbrev kz_BK_state : Nat := 13
def ki_BK_state : List (Nat × Jvm.ClassFile.Instr) := [(0, .aload_n 0), (1, .getfield 12), (4, .iload_n 1), (5, .invokevirtual 60), (8, .astore_n 3), (9, .aload_n 3), (10, .ifnonnull (7)), (13, .iconst (-1)), (14, .goto (8)), (17, .aload_n 3), (18, .iload_n 2), (19, .invokevirtual 86), (22, .ireturn)]
def ke_BK_state : kb_m := (⟨"BindingKernel", "state", "(II)I"⟩, prog_1_method_15_code, 4, some .int, 0, 2, false, 1, 21, ki_BK_state)
abbrev kz_BK_pass : Nat := 14
def ki_BK_pass : List (Nat × Jvm.ClassFile.Instr) := [(0, .iload_n 1), (1, .iconst 1), (2, .if_icmp .lt (28)), (5, .iload_n 1), (6, .bipush 50), (8, .if_icmp .gt (22)), (11, .aload_n 0), (12, .getfield 12), (15, .aload_n 0), (16, .getfield 12), (19, .getfield 79), (22, .iload_n 1), (23, .iadd), (24, .invokevirtual 89), (27, .goto (4)), (30, .iconst (-1)), (31, .ireturn)]
def ke_BK_pass : kb_m := (⟨"BindingKernel", "pass", "(I)I"⟩, prog_1_method_16_code, 2, some .int, 0, 1, false, 3, 65, ki_BK_pass)
abbrev kz_BK_time : Nat := 15
def ki_BK_time : List (Nat × Jvm.ClassFile.Instr) := [(0, .aload_n 0), (1, .getfield 12), (4, .getfield 79), (7, .ireturn)]
def ke_BK_time : kb_m := (⟨"BindingKernel", "time", "()I"⟩, prog_1_method_17_code, 1, some .int, 0, 0, false, 0, 0, ki_BK_time)
abbrev kz_BK_free : Nat := 16
def ki_BK_free : List (Nat × Jvm.ClassFile.Instr) := [(0, .aload_n 0), (1, .getfield 12), (4, .iload_n 1), (5, .invokevirtual 92), (8, .invokevirtual 96), (11, .ireturn)]
def ke_BK_free : kb_m := (⟨"BindingKernel", "free", "(Z)I"⟩, prog_1_method_18_code, 2, some .int, 0, 1, false, 2, 46, ki_BK_free)
abbrev kz_BK_held : Nat := 17
def ki_BK_held : List (Nat × Jvm.ClassFile.Instr) := [(0, .iload_n 1), (1, .invokestatic 101), (4, .ifCond .eq (18)), (7, .aload_n 0), (8, .getfield 12), (11, .iload_n 2), (12, .invokevirtual 92), (15, .iload_n 1), (16, .invokevirtual 104), (19, .goto (4)), (22, .iconst (-1)), (23, .ireturn)]
def ke_BK_held : kb_m := (⟨"BindingKernel", "held", "(IZ)I"⟩, prog_1_method_19_code, 3, some .int, 0, 2, false, 1, 26, ki_BK_held)
abbrev kz_BK_losses : Nat := 18
def ki_BK_losses : List (Nat × Jvm.ClassFile.Instr) := [(0, .iload_n 1), (1, .invokestatic 101), (4, .ifCond .ne (5)), (7, .iconst (-1)), (8, .ireturn), (9, .aload_n 0), (10, .getfield 12), (13, .iload_n 1), (14, .invokevirtual 60), (17, .astore_n 2), (18, .aload_n 2), (19, .ifnonnull (7)), (22, .iconst 0), (23, .goto (7)), (26, .aload_n 2), (27, .getfield 107), (30, .ireturn)]
def ke_BK_losses : kb_m := (⟨"BindingKernel", "losses", "(I)I"⟩, prog_1_method_20_code, 3, some .int, 0, 1, false, 1, 21, ki_BK_losses)
abbrev kz_BK_transfers : Nat := 19
def ki_BK_transfers : List (Nat × Jvm.ClassFile.Instr) := [(0, .iconst 0), (1, .istore_n 2), (2, .aload_n 0), (3, .getfield 18), (6, .astore_n 3), (7, .aload_n 3), (8, .arraylength), (9, .istore 4), (11, .iconst 0), (12, .istore 5), (14, .iload 5), (16, .iload 4), (18, .if_icmp .ge (35)), (21, .aload_n 3), (22, .iload 5), (24, .aaload), (25, .astore 6), (27, .iload_n 2), (28, .iload_n 1), (29, .ifCond .eq (11)), (32, .aload 6), (34, .getfield 110), (37, .goto (8)), (40, .aload 6), (42, .getfield 113), (45, .iadd), (46, .istore_n 2), (47, .iinc 5 (1)), (50, .goto (-36)), (53, .iload_n 2), (54, .ireturn)]
def ke_BK_transfers : kb_m := (⟨"BindingKernel", "transfers", "(Z)I"⟩, prog_1_method_21_code, 7, some .int, 0, 1, false, 0, 0, ki_BK_transfers)
abbrev kz_BK_applicationOf : Nat := 20
def ki_BK_applicationOf : List (Nat × Jvm.ClassFile.Instr) := [(0, .iload_n 1), (1, .ifCond .lt (17)), (4, .iload_n 1), (5, .iconst 2), (6, .if_icmp .ge (12)), (9, .aload_n 0), (10, .getfield 18), (13, .iload_n 1), (14, .aaload), (15, .goto (4)), (18, .aconst_null), (19, .areturn)]
def ke_BK_applicationOf : kb_m := (⟨"BindingKernel", "applicationOf", "(I)LBindingKernel$Application;"⟩, prog_1_method_22_code, 2, some (.object "BindingKernel$Application"), 0, 1, false, 0, 0, ki_BK_applicationOf)
abbrev kz_BK_isEnvironment : Nat := 21
def ki_BK_isEnvironment : List (Nat × Jvm.ClassFile.Instr) := [(0, .iload_n 0), (1, .ifCond .lt (12)), (4, .iload_n 0), (5, .iconst 4), (6, .if_icmp .ge (7)), (9, .iconst 1), (10, .goto (4)), (13, .iconst 0), (14, .ireturn)]
def ke_BK_isEnvironment : kb_m := (⟨"BindingKernel", "isEnvironment", "(I)Z"⟩, prog_1_method_23_code, 1, some .boolean, 0, 1, true, 0, 0, ki_BK_isEnvironment)
abbrev kz_Model_within : Nat := 22
def ki_Model_within : List (Nat × Jvm.ClassFile.Instr) := [(0, .iload_n 0), (1, .iload_n 1), (2, .if_icmp .lt (12)), (5, .iload_n 0), (6, .iload_n 2), (7, .if_icmp .gt (7)), (10, .iconst 1), (11, .goto (4)), (14, .iconst 0), (15, .ireturn)]
def ke_Model_within : kb_m := (⟨"BindingKernelModel", "within", "(III)Z"⟩, prog_8_method_2_code, 3, some .boolean, 6, 3, true, 0, 0, ki_Model_within)
abbrev kz_Model_blocksOf : Nat := 23
def ki_Model_blocksOf : List (Nat × Jvm.ClassFile.Instr) := [(0, .iconst 0), (1, .istore_n 2), (2, .iconst 0), (3, .istore_n 3), (4, .iload_n 3), (5, .bipush 6), (7, .if_icmp .ge (27)), (10, .iload_n 2), (11, .aload_n 0), (12, .getfield 13), (15, .bipush 6), (17, .iload_n 1), (18, .imul), (19, .iload_n 3), (20, .iadd), (21, .iaload), (22, .iconst 3), (23, .iadd), (24, .iconst 4), (25, .idiv), (26, .iadd), (27, .istore_n 2), (28, .iinc 3 (1)), (31, .goto (-27)), (34, .iload_n 2), (35, .ireturn)]
def ke_Model_blocksOf : kb_m := (⟨"BindingKernelModel", "blocksOf", "(I)I"⟩, prog_8_method_3_code, 4, some .int, 6, 1, false, 0, 0, ki_Model_blocksOf)
abbrev kz_Model_liveOf : Nat := 24
def ki_Model_liveOf : List (Nat × Jvm.ClassFile.Instr) := [(0, .iconst 0), (1, .istore_n 3), (2, .iconst 0), (3, .istore 4), (5, .iload 4), (7, .aload_n 0), (8, .getfield 26), (11, .iload_n 1), (12, .iconst 2), (13, .isub), (14, .iaload), (15, .if_icmp .ge (50)), (18, .bipush 60), (20, .iload_n 1), (21, .iconst 2), (22, .isub), (23, .imul), (24, .iload 4), (26, .iadd), (27, .istore 5), (29, .aload_n 0), (30, .getfield 35), (33, .iload 5), (35, .iaload), (36, .iconst 2), (37, .if_icmp .lt (20)), (40, .aload_n 0), (41, .getfield 32), (44, .iload 5), (46, .baload), (47, .iload_n 2), (48, .if_icmp .ne (9)), (51, .iload_n 3), (52, .iconst 1), (53, .iadd), (54, .goto (4)), (57, .iload_n 3), (58, .istore_n 3), (59, .iinc 4 (1)), (62, .goto (-57)), (65, .iload_n 3), (66, .ireturn)]
def ke_Model_liveOf : kb_m := (⟨"BindingKernelModel", "liveOf", "(IZ)I"⟩, prog_8_method_4_code, 6, some .int, 6, 2, false, 0, 0, ki_Model_liveOf)
abbrev kz_Model_count : Nat := 25
def ki_Model_count : List (Nat × Jvm.ClassFile.Instr) := [(0, .iload_n 1), (1, .iconst 2), (2, .if_icmp .lt (10)), (5, .aload_n 0), (6, .iload_n 1), (7, .iload_n 2), (8, .invokevirtual 44), (11, .ireturn), (12, .iload_n 2), (13, .ifCond .eq (11)), (16, .aload_n 0), (17, .iload_n 1), (18, .invokevirtual 48), (21, .goto (9)), (24, .aload_n 0), (25, .getfield 23), (28, .iload_n 1), (29, .iaload), (30, .ireturn)]
def ke_Model_count : kb_m := (⟨"BindingKernelModel", "count", "(IZ)I"⟩, prog_8_method_5_code, 3, some .int, 6, 2, false, 1, 25, ki_Model_count)
abbrev kz_Model_free : Nat := 26
def ki_Model_free : List (Nat × Jvm.ClassFile.Instr) := [(0, .iload_n 1), (1, .ifCond .eq (8)), (4, .bipush 24), (6, .goto (5)), (9, .bipush 12), (11, .istore_n 2), (12, .iconst 0), (13, .istore_n 3), (14, .iload_n 3), (15, .iconst 4), (16, .if_icmp .ge (18)), (19, .iload_n 2), (20, .aload_n 0), (21, .iload_n 3), (22, .iload_n 1), (23, .invokevirtual 52), (26, .isub), (27, .istore_n 2), (28, .iinc 3 (1)), (31, .goto (-17)), (34, .iload_n 2), (35, .ireturn)]
def ke_Model_free : kb_m := (⟨"BindingKernelModel", "free", "(Z)I"⟩, prog_8_method_6_code, 4, some .int, 6, 1, false, 2, 47, ki_Model_free)
abbrev kz_Model_held : Nat := 27
def ki_Model_held : List (Nat × Jvm.ClassFile.Instr) := [(0, .iload_n 1), (1, .iconst 0), (2, .iconst 3), (3, .invokestatic 55), (6, .ifCond .eq (12)), (9, .aload_n 0), (10, .iload_n 1), (11, .iload_n 2), (12, .invokevirtual 52), (15, .goto (4)), (18, .iconst (-1)), (19, .ireturn)]
def ke_Model_held : kb_m := (⟨"BindingKernelModel", "held", "(IZ)I"⟩, prog_8_method_7_code, 3, some .int, 6, 2, false, 2, 47, ki_Model_held)
abbrev kz_Model_moveTo : Nat := 28
def ki_Model_moveTo : List (Nat × Jvm.ClassFile.Instr) := [(0, .aload_n 0), (1, .iload_n 1), (2, .putfield 59), (5, .iconst 0), (6, .istore_n 2), (7, .iconst 2), (8, .istore_n 3), (9, .iload_n 3), (10, .iconst 3), (11, .if_icmp .gt (96)), (14, .iconst 0), (15, .istore 4), (17, .iload 4), (19, .aload_n 0), (20, .getfield 26), (23, .iload_n 3), (24, .iconst 2), (25, .isub), (26, .iaload), (27, .if_icmp .ge (74)), (30, .bipush 60), (32, .iload_n 3), (33, .iconst 2), (34, .isub), (35, .imul), (36, .iload 4), (38, .iadd), (39, .istore 5), (41, .aload_n 0), (42, .getfield 35), (45, .iload 5), (47, .iaload), (48, .iconst 3), (49, .if_icmp .ne (46)), (52, .aload_n 0), (53, .getfield 38), (56, .iload 5), (58, .iaload), (59, .aload_n 0), (60, .getfield 59), (63, .if_icmp .gt (32)), (66, .aload_n 0), (67, .getfield 35), (70, .iload 5), (72, .iconst 1), (73, .iastore), (74, .aload_n 0), (75, .getfield 29), (78, .iload_n 3), (79, .iconst 2), (80, .isub), (81, .aload_n 0), (82, .getfield 29), (85, .iload_n 3), (86, .iconst 2), (87, .isub), (88, .iaload), (89, .iconst 1), (90, .iadd), (91, .iastore), (92, .iinc 2 (1)), (95, .iinc 4 (1)), (98, .goto (-81)), (101, .iinc 3 (1)), (104, .goto (-95)), (107, .iload_n 2), (108, .ireturn)]
def ke_Model_moveTo : kb_m := (⟨"BindingKernelModel", "moveTo", "(I)I"⟩, prog_8_method_8_code, 6, some .int, 6, 1, false, 0, 0, ki_Model_moveTo)
abbrev kz_Model_earliest : Nat := 29
def ki_Model_earliest : List (Nat × Jvm.ClassFile.Instr) := [(0, .iconst (-1)), (1, .istore_n 2), (2, .iconst 0), (3, .istore_n 3), (4, .iload_n 3), (5, .iconst 2), (6, .if_icmp .ge (83)), (9, .iconst 0), (10, .istore 4), (12, .iload 4), (14, .aload_n 0), (15, .getfield 26), (18, .iload_n 3), (19, .iaload), (20, .if_icmp .ge (63)), (23, .bipush 60), (25, .iload_n 3), (26, .imul), (27, .iload 4), (29, .iadd), (30, .istore 5), (32, .aload_n 0), (33, .getfield 35), (36, .iload 5), (38, .iaload), (39, .iconst 3), (40, .if_icmp .ne (37)), (43, .aload_n 0), (44, .getfield 32), (47, .iload 5), (49, .baload), (50, .iload_n 1), (51, .if_icmp .ne (26)), (54, .iload_n 2), (55, .ifCond .lt (14)), (58, .aload_n 0), (59, .getfield 38), (62, .iload 5), (64, .iaload), (65, .iload_n 2), (66, .if_icmp .ge (11)), (69, .aload_n 0), (70, .getfield 38), (73, .iload 5), (75, .iaload), (76, .istore_n 2), (77, .iinc 4 (1)), (80, .goto (-68)), (83, .iinc 3 (1)), (86, .goto (-82)), (89, .iload_n 2), (90, .ireturn)]
def ke_Model_earliest : kb_m := (⟨"BindingKernelModel", "earliest", "(Z)I"⟩, prog_8_method_9_code, 6, some .int, 6, 1, false, 0, 0, ki_Model_earliest)
abbrev kz_Model_mark : Nat := 30
def ki_Model_mark : List (Nat × Jvm.ClassFile.Instr) := [(0, .aload_n 0), (1, .getfield 35), (4, .iload_n 1), (5, .iconst 3), (6, .iastore), (7, .aload_n 0), (8, .getfield 38), (11, .iload_n 1), (12, .aload_n 0), (13, .getfield 59), (16, .iconst 5), (17, .iadd), (18, .iastore), (19, .return_)]
def ke_Model_mark : kb_m := (⟨"BindingKernelModel", "mark", "(I)V"⟩, prog_8_method_10_code, 2, none, 6, 1, false, 0, 0, ki_Model_mark)
abbrev kz_Model_wish : Nat := 31
def ki_Model_wish : List (Nat × Jvm.ClassFile.Instr) := [(0, .aload_n 0), (1, .iload_n 1), (2, .invokevirtual 63), (5, .ifCond .lt (4)), (8, .return_), (9, .aload_n 0), (10, .iconst 3), (11, .iload_n 1), (12, .invokevirtual 44), (15, .aload_n 0), (16, .iconst 2), (17, .iload_n 1), (18, .invokevirtual 44), (21, .if_icmp .le (7)), (24, .iconst 3), (25, .goto (4)), (28, .iconst 2), (29, .istore_n 2), (30, .iconst (-1)), (31, .istore_n 3), (32, .iconst 0), (33, .istore 4), (35, .iload 4), (37, .aload_n 0), (38, .getfield 26), (41, .iload_n 2), (42, .iconst 2), (43, .isub), (44, .iaload), (45, .if_icmp .ge (49)), (48, .bipush 60), (50, .iload_n 2), (51, .iconst 2), (52, .isub), (53, .imul), (54, .iload 4), (56, .iadd), (57, .istore 5), (59, .aload_n 0), (60, .getfield 35), (63, .iload 5), (65, .iaload), (66, .iconst 2), (67, .if_icmp .ne (19)), (70, .aload_n 0), (71, .getfield 32), (74, .iload 5), (76, .baload), (77, .iload_n 1), (78, .if_icmp .ne (8)), (81, .iload 5), (83, .goto (4)), (86, .iload_n 3), (87, .istore_n 3), (88, .iinc 4 (1)), (91, .goto (-56)), (94, .iload_n 3), (95, .ifCond .lt (8)), (98, .aload_n 0), (99, .iload_n 3), (100, .invokevirtual 67), (103, .return_)]
def ke_Model_wish : kb_m := (⟨"BindingKernelModel", "wish", "(Z)V"⟩, prog_8_method_11_code, 6, none, 6, 1, false, 1, 25, ki_Model_wish)
abbrev kz_Model_claim : Nat := 32
def ki_Model_claim : List (Nat × Jvm.ClassFile.Instr) := [(0, .aload_n 0), (1, .iload_n 1), (2, .invokevirtual 71), (5, .ifCond .ne (18)), (8, .aload_n 0), (9, .iload_n 1), (10, .invokevirtual 74), (13, .aload_n 0), (14, .aload_n 0), (15, .iload_n 1), (16, .invokevirtual 63), (19, .invokevirtual 78), (22, .istore_n 2), (23, .return_)]
def ke_Model_claim : kb_m := (⟨"BindingKernelModel", "claim", "(Z)V"⟩, prog_8_method_12_code, 3, none, 6, 1, false, 3, 70, ki_Model_claim)
abbrev kz_Model_noFile : Nat := 33
def ki_Model_noFile : List (Nat × Jvm.ClassFile.Instr) := [(0, .iload_n 1), (1, .iconst 0), (2, .iconst 1), (3, .invokestatic 55), (6, .ifCond .eq (12)), (9, .iload_n 2), (10, .iconst 0), (11, .iconst 5), (12, .invokestatic 55), (15, .ifCond .ne (7)), (18, .iconst 1), (19, .goto (4)), (22, .iconst 0), (23, .ireturn)]
def ke_Model_noFile : kb_m := (⟨"BindingKernelModel", "noFile", "(II)Z"⟩, prog_8_method_13_code, 3, some .boolean, 6, 2, false, 1, 22, ki_Model_noFile)
abbrev kz_Model_noWord : Nat := 34
def ki_Model_noWord : List (Nat × Jvm.ClassFile.Instr) := [(0, .aload_n 0), (1, .iload_n 1), (2, .iload_n 2), (3, .invokevirtual 81), (6, .ifCond .ne (24)), (9, .iload_n 3), (10, .iconst 0), (11, .aload_n 0), (12, .getfield 13), (15, .bipush 6), (17, .iload_n 1), (18, .imul), (19, .iload_n 2), (20, .iadd), (21, .iaload), (22, .iconst 1), (23, .isub), (24, .invokestatic 55), (27, .ifCond .ne (7)), (30, .iconst 1), (31, .goto (4)), (34, .iconst 0), (35, .ireturn)]
def ke_Model_noWord : kb_m := (⟨"BindingKernelModel", "noWord", "(III)Z"⟩, prog_8_method_14_code, 4, some .boolean, 6, 3, false, 2, 44, ki_Model_noWord)
abbrev kz_Model_find : Nat := 35
def ki_Model_find : List (Nat × Jvm.ClassFile.Instr) := [(0, .iconst (-1)), (1, .istore_n 3), (2, .iconst 3), (3, .iload_n 1), (4, .imul), (5, .istore 4), (7, .iload 4), (9, .iconst 3), (10, .iload_n 1), (11, .imul), (12, .aload_n 0), (13, .getfield 23), (16, .iload_n 1), (17, .iaload), (18, .iadd), (19, .if_icmp .ge (27)), (22, .aload_n 0), (23, .getfield 16), (26, .iload 4), (28, .iaload), (29, .iload_n 2), (30, .if_icmp .ne (8)), (33, .iload 4), (35, .goto (4)), (38, .iload_n 3), (39, .istore_n 3), (40, .iinc 4 (1)), (43, .goto (-36)), (46, .iload_n 3), (47, .ireturn)]
def ke_Model_find : kb_m := (⟨"BindingKernelModel", "find", "(II)I"⟩, prog_8_method_15_code, 5, some .int, 6, 2, false, 0, 0, ki_Model_find)
abbrev kz_Model_remove : Nat := 36
def ki_Model_remove : List (Nat × Jvm.ClassFile.Instr) := [(0, .iload_n 2), (1, .istore_n 3), (2, .iload_n 3), (3, .iconst 3), (4, .iload_n 1), (5, .imul), (6, .aload_n 0), (7, .getfield 23), (10, .iload_n 1), (11, .iaload), (12, .iadd), (13, .iconst 1), (14, .isub), (15, .if_icmp .ge (37)), (18, .aload_n 0), (19, .getfield 16), (22, .iload_n 3), (23, .aload_n 0), (24, .getfield 16), (27, .iload_n 3), (28, .iconst 1), (29, .iadd), (30, .iaload), (31, .iastore), (32, .aload_n 0), (33, .getfield 19), (36, .iload_n 3), (37, .aload_n 0), (38, .getfield 19), (41, .iload_n 3), (42, .iconst 1), (43, .iadd), (44, .baload), (45, .bastore), (46, .iinc 3 (1)), (49, .goto (-47)), (52, .aload_n 0), (53, .getfield 23), (56, .iload_n 1), (57, .aload_n 0), (58, .getfield 23), (61, .iload_n 1), (62, .iaload), (63, .iconst 1), (64, .isub), (65, .iastore), (66, .return_)]
def ke_Model_remove : kb_m := (⟨"BindingKernelModel", "remove", "(II)V"⟩, prog_8_method_16_code, 4, none, 6, 2, false, 0, 0, ki_Model_remove)
abbrev kz_Model_add : Nat := 37
def ki_Model_add : List (Nat × Jvm.ClassFile.Instr) := [(0, .iconst 3), (1, .iload_n 1), (2, .imul), (3, .aload_n 0), (4, .getfield 23), (7, .iload_n 1), (8, .iaload), (9, .iadd), (10, .istore 4), (12, .aload_n 0), (13, .getfield 16), (16, .iload 4), (18, .iload_n 2), (19, .iastore), (20, .aload_n 0), (21, .getfield 19), (24, .iload 4), (26, .iload_n 3), (27, .bastore), (28, .aload_n 0), (29, .getfield 23), (32, .iload_n 1), (33, .aload_n 0), (34, .getfield 23), (37, .iload_n 1), (38, .iaload), (39, .iconst 1), (40, .iadd), (41, .iastore), (42, .return_)]
def ke_Model_add : kb_m := (⟨"BindingKernelModel", "add", "(IIZ)V"⟩, prog_8_method_17_code, 5, none, 6, 3, false, 0, 0, ki_Model_add)
abbrev kz_Model_storeAt : Nat := 38
def ki_Model_storeAt : List (Nat × Jvm.ClassFile.Instr) := [(0, .aload_n 0), (1, .aload_n 0), (2, .getfield 19), (5, .iload_n 1), (6, .baload), (7, .ifCond .eq (12)), (10, .aload_n 0), (11, .getfield 85), (14, .iconst 1), (15, .iadd), (16, .goto (7)), (19, .aload_n 0), (20, .getfield 85), (23, .putfield 85), (26, .aload_n 0), (27, .getfield 19), (30, .iload_n 1), (31, .iconst 0), (32, .bastore), (33, .return_)]
def ke_Model_storeAt : kb_m := (⟨"BindingKernelModel", "storeAt", "(I)V"⟩, prog_8_method_18_code, 2, none, 6, 1, false, 0, 0, ki_Model_storeAt)
abbrev kz_Model_open : Nat := 39
def ki_Model_open : List (Nat × Jvm.ClassFile.Instr) := [(0, .bipush 6), (2, .iload_n 2), (3, .imul), (4, .iload_n 3), (5, .iconst 4), (6, .idiv), (7, .iadd), (8, .istore 4), (10, .aload_n 0), (11, .iload_n 1), (12, .iload 4), (14, .invokevirtual 88), (17, .istore 5), (19, .iload 5), (21, .ifCond .lt (29)), (24, .aload_n 0), (25, .getfield 19), (28, .iload 5), (30, .baload), (31, .istore 6), (33, .aload_n 0), (34, .iload_n 1), (35, .iload 5), (37, .invokevirtual 92), (40, .aload_n 0), (41, .iload_n 1), (42, .iload 4), (44, .iload 6), (46, .invokevirtual 96), (49, .return_), (50, .aload_n 0), (51, .getfield 23), (54, .iload_n 1), (55, .iaload), (56, .iconst 3), (57, .if_icmp .ne (21)), (60, .aload_n 0), (61, .iconst 3), (62, .iload_n 1), (63, .imul), (64, .invokevirtual 100), (67, .aload_n 0), (68, .iload_n 1), (69, .iconst 3), (70, .iload_n 1), (71, .imul), (72, .invokevirtual 92), (75, .goto (8)), (78, .aload_n 0), (79, .iconst 0), (80, .invokevirtual 103), (83, .aload_n 0), (84, .dup), (85, .getfield 106), (88, .iconst 1), (89, .iadd), (90, .putfield 106), (93, .aload_n 0), (94, .iload_n 1), (95, .iload 4), (97, .iconst 0), (98, .invokevirtual 96), (101, .return_)]
def ke_Model_open : kb_m := (⟨"BindingKernelModel", "open", "(III)V"⟩, prog_8_method_19_code, 7, none, 6, 3, false, 4, 92, ki_Model_open)
abbrev kz_Model_change : Nat := 40
def ki_Model_change : List (Nat × Jvm.ClassFile.Instr) := [(0, .aload_n 0), (1, .iload_n 1), (2, .iload_n 2), (3, .iload_n 3), (4, .invokevirtual 109), (7, .aload_n 0), (8, .getfield 7), (11, .sipush 144), (14, .iload_n 1), (15, .imul), (16, .bipush 24), (18, .iload_n 2), (19, .imul), (20, .iadd), (21, .iload_n 3), (22, .iadd), (23, .iload 4), (25, .iastore), (26, .aload_n 0), (27, .getfield 19), (30, .iconst 3), (31, .iload_n 1), (32, .imul), (33, .aload_n 0), (34, .getfield 23), (37, .iload_n 1), (38, .iaload), (39, .iadd), (40, .iconst 1), (41, .isub), (42, .iconst 1), (43, .bastore), (44, .return_)]
def ke_Model_change : kb_m := (⟨"BindingKernelModel", "change", "(IIII)V"⟩, prog_8_method_20_code, 5, none, 6, 4, false, 5, 118, ki_Model_change)
abbrev kz_Model_append : Nat := 41
def ki_Model_append : List (Nat × Jvm.ClassFile.Instr) := [(0, .aload_n 0), (1, .iload_n 1), (2, .iload_n 2), (3, .invokevirtual 81), (6, .ifCond .eq (5)), (9, .iconst 0), (10, .ireturn), (11, .aload_n 0), (12, .getfield 13), (15, .bipush 6), (17, .iload_n 1), (18, .imul), (19, .iload_n 2), (20, .iadd), (21, .iaload), (22, .istore 4), (24, .iload 4), (26, .iconst 4), (27, .irem), (28, .ifCond .ne (20)), (31, .aload_n 0), (32, .iload_n 1), (33, .invokevirtual 48), (36, .bipush 6), (38, .if_icmp .lt (5)), (41, .iconst 0), (42, .ireturn), (43, .aload_n 0), (44, .iconst 1), (45, .invokevirtual 103), (48, .aload_n 0), (49, .getfield 13), (52, .bipush 6), (54, .iload_n 1), (55, .imul), (56, .iload_n 2), (57, .iadd), (58, .iload 4), (60, .iconst 1), (61, .iadd), (62, .iastore), (63, .aload_n 0), (64, .iload_n 1), (65, .iload_n 2), (66, .iload 4), (68, .iload_n 3), (69, .invokevirtual 113), (72, .iconst 1), (73, .ireturn)]
def ke_Model_append : kb_m := (⟨"BindingKernelModel", "append", "(III)Z"⟩, prog_8_method_21_code, 5, some .boolean, 6, 3, false, 6, 142, ki_Model_append)
abbrev kz_Model_write : Nat := 42
def ki_Model_write : List (Nat × Jvm.ClassFile.Instr) := [(0, .aload_n 0), (1, .iload_n 1), (2, .iload_n 2), (3, .iload_n 3), (4, .invokevirtual 117), (7, .ifCond .eq (5)), (10, .iconst 0), (11, .ireturn), (12, .aload_n 0), (13, .iload_n 1), (14, .iload_n 2), (15, .iload_n 3), (16, .iload 4), (18, .invokevirtual 113), (21, .iconst 1), (22, .ireturn)]
def ke_Model_write : kb_m := (⟨"BindingKernelModel", "write", "(IIII)Z"⟩, prog_8_method_22_code, 5, some .boolean, 6, 4, false, 6, 142, ki_Model_write)
abbrev kz_Model_read : Nat := 43
def ki_Model_read : List (Nat × Jvm.ClassFile.Instr) := [(0, .aload_n 0), (1, .iload_n 1), (2, .iload_n 2), (3, .iload_n 3), (4, .invokevirtual 117), (7, .ifCond .eq (5)), (10, .iconst 0), (11, .ireturn), (12, .aload_n 0), (13, .iload_n 1), (14, .iload_n 2), (15, .iload_n 3), (16, .invokevirtual 109), (19, .aload_n 0), (20, .getfield 7), (23, .sipush 144), (26, .iload_n 1), (27, .imul), (28, .bipush 24), (30, .iload_n 2), (31, .imul), (32, .iadd), (33, .iload_n 3), (34, .iadd), (35, .iaload), (36, .ireturn)]
def ke_Model_read : kb_m := (⟨"BindingKernelModel", "read", "(III)I"⟩, prog_8_method_23_code, 4, some .int, 6, 3, false, 5, 118, ki_Model_read)
abbrev kz_Model_length : Nat := 44
def ki_Model_length : List (Nat × Jvm.ClassFile.Instr) := [(0, .aload_n 0), (1, .iload_n 1), (2, .iload_n 2), (3, .invokevirtual 81), (6, .ifCond .eq (7)), (9, .iconst (-1)), (10, .goto (14)), (13, .aload_n 0), (14, .getfield 13), (17, .bipush 6), (19, .iload_n 1), (20, .imul), (21, .iload_n 2), (22, .iadd), (23, .iaload), (24, .ireturn)]
def ke_Model_length : kb_m := (⟨"BindingKernelModel", "length", "(II)I"⟩, prog_8_method_24_code, 3, some .int, 6, 2, false, 2, 44, ki_Model_length)
abbrev kz_Model_erase : Nat := 45
def ki_Model_erase : List (Nat × Jvm.ClassFile.Instr) := [(0, .aload_n 0), (1, .iload_n 1), (2, .iload_n 2), (3, .invokevirtual 81), (6, .ifCond .eq (5)), (9, .iconst (-1)), (10, .ireturn), (11, .aload_n 0), (12, .getfield 13), (15, .bipush 6), (17, .iload_n 1), (18, .imul), (19, .iload_n 2), (20, .iadd), (21, .iaload), (22, .iconst 3), (23, .iadd), (24, .iconst 4), (25, .idiv), (26, .istore_n 3), (27, .iconst 0), (28, .istore 4), (30, .iload 4), (32, .iload_n 3), (33, .if_icmp .ge (35)), (36, .aload_n 0), (37, .iload_n 1), (38, .bipush 6), (40, .iload_n 2), (41, .imul), (42, .iload 4), (44, .iadd), (45, .invokevirtual 88), (48, .istore 5), (50, .iload 5), (52, .ifCond .lt (10)), (55, .aload_n 0), (56, .iload_n 1), (57, .iload 5), (59, .invokevirtual 92), (62, .iinc 4 (1)), (65, .goto (-35)), (68, .aload_n 0), (69, .getfield 13), (72, .bipush 6), (74, .iload_n 1), (75, .imul), (76, .iload_n 2), (77, .iadd), (78, .iconst 0), (79, .iastore), (80, .iload_n 3), (81, .ireturn)]
def ke_Model_erase : kb_m := (⟨"BindingKernelModel", "erase", "(II)I"⟩, prog_8_method_25_code, 6, some .int, 6, 2, false, 2, 44, ki_Model_erase)
abbrev kz_Model_sync : Nat := 46
def ki_Model_sync : List (Nat × Jvm.ClassFile.Instr) := [(0, .iload_n 1), (1, .iconst 0), (2, .iconst 1), (3, .invokestatic 55), (6, .ifCond .ne (5)), (9, .iconst (-1)), (10, .ireturn), (11, .aload_n 0), (12, .getfield 85), (15, .istore_n 2), (16, .iconst 3), (17, .iload_n 1), (18, .imul), (19, .istore_n 3), (20, .iload_n 3), (21, .iconst 3), (22, .iload_n 1), (23, .imul), (24, .aload_n 0), (25, .getfield 23), (28, .iload_n 1), (29, .iaload), (30, .iadd), (31, .if_icmp .ge (14)), (34, .aload_n 0), (35, .iload_n 3), (36, .invokevirtual 100), (39, .iinc 3 (1)), (42, .goto (-22)), (45, .aload_n 0), (46, .getfield 85), (49, .iload_n 2), (50, .isub), (51, .ireturn)]
def ke_Model_sync : kb_m := (⟨"BindingKernelModel", "sync", "(I)I"⟩, prog_8_method_26_code, 4, some .int, 6, 1, false, 1, 22, ki_Model_sync)
abbrev kz_Model_squeeze : Nat := 47
def ki_Model_squeeze : List (Nat × Jvm.ClassFile.Instr) := [(0, .iload_n 1), (1, .iconst 0), (2, .iconst 1), (3, .invokestatic 55), (6, .ifCond .eq (12)), (9, .aload_n 0), (10, .getfield 23), (13, .iload_n 1), (14, .iaload), (15, .ifCond .ne (5)), (18, .iconst 0), (19, .ireturn), (20, .aload_n 0), (21, .iconst 3), (22, .iload_n 1), (23, .imul), (24, .invokevirtual 100), (27, .aload_n 0), (28, .iload_n 1), (29, .iconst 3), (30, .iload_n 1), (31, .imul), (32, .invokevirtual 92), (35, .iconst 1), (36, .ireturn)]
def ke_Model_squeeze : kb_m := (⟨"BindingKernelModel", "squeeze", "(I)Z"⟩, prog_8_method_27_code, 2, some .boolean, 6, 1, false, 1, 23, ki_Model_squeeze)
abbrev kz_Model_bind : Nat := 48
def ki_Model_bind : List (Nat × Jvm.ClassFile.Instr) := [(0, .iload_n 1), (1, .iconst 2), (2, .iconst 3), (3, .invokestatic 55), (6, .ifCond .eq (16)), (9, .aload_n 0), (10, .getfield 26), (13, .iload_n 1), (14, .iconst 2), (15, .isub), (16, .iaload), (17, .bipush 60), (19, .if_icmp .ne (5)), (22, .iconst (-1)), (23, .ireturn), (24, .aload_n 0), (25, .iload_n 2), (26, .invokevirtual 71), (29, .ifCond .ne (33)), (32, .aload_n 0), (33, .iload_n 1), (34, .iload_n 2), (35, .invokevirtual 44), (38, .iload_n 2), (39, .ifCond .eq (8)), (42, .bipush 6), (44, .goto (4)), (47, .iconst 3), (48, .if_icmp .lt (6)), (51, .bipush (-2)), (53, .ireturn), (54, .aload_n 0), (55, .iload_n 2), (56, .invokevirtual 74), (59, .bipush (-3)), (61, .ireturn), (62, .aload_n 0), (63, .getfield 26), (66, .iload_n 1), (67, .iconst 2), (68, .isub), (69, .iaload), (70, .istore_n 3), (71, .bipush 60), (73, .iload_n 1), (74, .iconst 2), (75, .isub), (76, .imul), (77, .iload_n 3), (78, .iadd), (79, .istore 4), (81, .aload_n 0), (82, .getfield 32), (85, .iload 4), (87, .iload_n 2), (88, .bastore), (89, .aload_n 0), (90, .getfield 35), (93, .iload 4), (95, .iconst 2), (96, .iastore), (97, .iconst 0), (98, .istore 5), (100, .iload 5), (102, .iconst 4), (103, .if_icmp .ge (22)), (106, .aload_n 0), (107, .getfield 41), (110, .iconst 4), (111, .iload 4), (113, .imul), (114, .iload 5), (116, .iadd), (117, .iconst 0), (118, .iastore), (119, .iinc 5 (1)), (122, .goto (-22)), (125, .aload_n 0), (126, .getfield 26), (129, .iload_n 1), (130, .iconst 2), (131, .isub), (132, .iload_n 3), (133, .iconst 1), (134, .iadd), (135, .iastore), (136, .iload_n 3), (137, .ireturn)]
def ke_Model_bind : kb_m := (⟨"BindingKernelModel", "bind", "(IZ)I"⟩, prog_8_method_28_code, 6, some .int, 6, 2, false, 3, 70, ki_Model_bind)
abbrev kz_Model_live : Nat := 49
def ki_Model_live : List (Nat × Jvm.ClassFile.Instr) := [(0, .iload_n 1), (1, .iconst 2), (2, .iconst 3), (3, .invokestatic 55), (6, .ifCond .eq (21)), (9, .iload_n 2), (10, .iconst 0), (11, .aload_n 0), (12, .getfield 26), (15, .iload_n 1), (16, .iconst 2), (17, .isub), (18, .iaload), (19, .iconst 1), (20, .isub), (21, .invokestatic 55), (24, .ifCond .ne (5)), (27, .iconst (-1)), (28, .ireturn), (29, .bipush 60), (31, .iload_n 1), (32, .iconst 2), (33, .isub), (34, .imul), (35, .iload_n 2), (36, .iadd), (37, .istore_n 3), (38, .aload_n 0), (39, .getfield 35), (42, .iload_n 3), (43, .iaload), (44, .iconst 2), (45, .if_icmp .lt (7)), (48, .iload_n 3), (49, .goto (4)), (52, .iconst (-1)), (53, .ireturn)]
def ke_Model_live : kb_m := (⟨"BindingKernelModel", "live", "(II)I"⟩, prog_8_method_29_code, 4, some .int, 6, 2, false, 1, 22, ki_Model_live)
abbrev kz_Model_put : Nat := 50
def ki_Model_put : List (Nat × Jvm.ClassFile.Instr) := [(0, .aload_n 0), (1, .iload_n 1), (2, .iload_n 2), (3, .invokevirtual 120), (6, .istore 5), (8, .iload 5), (10, .ifCond .lt (22)), (13, .aload_n 0), (14, .getfield 32), (17, .iload 5), (19, .baload), (20, .ifCond .ne (12)), (23, .iload_n 3), (24, .iconst 0), (25, .iconst 3), (26, .invokestatic 55), (29, .ifCond .ne (5)), (32, .iconst 0), (33, .ireturn), (34, .aload_n 0), (35, .getfield 41), (38, .iconst 4), (39, .iload 5), (41, .imul), (42, .iload_n 3), (43, .iadd), (44, .iload 4), (46, .iastore), (47, .iconst 1), (48, .ireturn)]
def ke_Model_put : kb_m := (⟨"BindingKernelModel", "put", "(IIII)Z"⟩, prog_8_method_30_code, 6, some .boolean, 6, 4, false, 2, 45, ki_Model_put)
abbrev kz_Model_get : Nat := 51
def ki_Model_get : List (Nat × Jvm.ClassFile.Instr) := [(0, .aload_n 0), (1, .iload_n 1), (2, .iload_n 2), (3, .invokevirtual 120), (6, .istore 4), (8, .iload 4), (10, .ifCond .lt (22)), (13, .aload_n 0), (14, .getfield 32), (17, .iload 4), (19, .baload), (20, .ifCond .ne (12)), (23, .iload_n 3), (24, .iconst 0), (25, .iconst 3), (26, .invokestatic 55), (29, .ifCond .ne (7)), (32, .iconst 0), (33, .goto (14)), (36, .aload_n 0), (37, .getfield 41), (40, .iconst 4), (41, .iload 4), (43, .imul), (44, .iload_n 3), (45, .iadd), (46, .iaload), (47, .ireturn)]
def ke_Model_get : kb_m := (⟨"BindingKernelModel", "get", "(III)I"⟩, prog_8_method_31_code, 5, some .int, 6, 3, false, 2, 45, ki_Model_get)
abbrev kz_Model_copy : Nat := 52
def ki_Model_copy : List (Nat × Jvm.ClassFile.Instr) := [(0, .aload_n 0), (1, .iload_n 1), (2, .iload_n 2), (3, .invokevirtual 120), (6, .istore 4), (8, .aload_n 0), (9, .iload_n 1), (10, .iload_n 3), (11, .invokevirtual 120), (14, .istore 5), (16, .iload 4), (18, .ifCond .lt (25)), (21, .iload 5), (23, .ifCond .lt (20)), (26, .aload_n 0), (27, .getfield 32), (30, .iload 4), (32, .baload), (33, .aload_n 0), (34, .getfield 32), (37, .iload 5), (39, .baload), (40, .if_icmp .ne (5)), (43, .iconst 0), (44, .ireturn), (45, .iconst 0), (46, .istore 6), (48, .iload 6), (50, .iconst 4), (51, .if_icmp .ge (33)), (54, .aload_n 0), (55, .getfield 41), (58, .iconst 4), (59, .iload 5), (61, .imul), (62, .iload 6), (64, .iadd), (65, .aload_n 0), (66, .getfield 41), (69, .iconst 4), (70, .iload 4), (72, .imul), (73, .iload 6), (75, .iadd), (76, .iaload), (77, .iastore), (78, .iinc 6 (1)), (81, .goto (-33)), (84, .iconst 1), (85, .ireturn)]
def ke_Model_copy : kb_m := (⟨"BindingKernelModel", "copy", "(III)Z"⟩, prog_8_method_32_code, 7, some .boolean, 6, 3, false, 2, 45, ki_Model_copy)
abbrev kz_Model_release : Nat := 53
def ki_Model_release : List (Nat × Jvm.ClassFile.Instr) := [(0, .aload_n 0), (1, .iload_n 1), (2, .iload_n 2), (3, .invokevirtual 120), (6, .istore_n 3), (7, .iload_n 3), (8, .ifCond .ge (5)), (11, .iconst 0), (12, .ireturn), (13, .aload_n 0), (14, .getfield 35), (17, .iload_n 3), (18, .iconst 0), (19, .iastore), (20, .iconst 1), (21, .ireturn)]
def ke_Model_release : kb_m := (⟨"BindingKernelModel", "release", "(II)Z"⟩, prog_8_method_33_code, 4, some .boolean, 6, 2, false, 2, 45, ki_Model_release)
abbrev kz_Model_ask : Nat := 54
def ki_Model_ask : List (Nat × Jvm.ClassFile.Instr) := [(0, .aload_n 0), (1, .iload_n 1), (2, .iload_n 2), (3, .invokevirtual 120), (6, .istore_n 3), (7, .iload_n 3), (8, .ifCond .lt (13)), (11, .aload_n 0), (12, .getfield 35), (15, .iload_n 3), (16, .iaload), (17, .iconst 3), (18, .if_icmp .ne (5)), (21, .iconst 0), (22, .ireturn), (23, .aload_n 0), (24, .iload_n 3), (25, .invokevirtual 67), (28, .iconst 1), (29, .ireturn)]
def ke_Model_ask : kb_m := (⟨"BindingKernelModel", "ask", "(II)Z"⟩, prog_8_method_34_code, 4, some .boolean, 6, 2, false, 2, 45, ki_Model_ask)
abbrev kz_Model_state : Nat := 55
def ki_Model_state : List (Nat × Jvm.ClassFile.Instr) := [(0, .iload_n 1), (1, .iconst 2), (2, .iconst 3), (3, .invokestatic 55), (6, .ifCond .eq (21)), (9, .iload_n 2), (10, .iconst 0), (11, .aload_n 0), (12, .getfield 26), (15, .iload_n 1), (16, .iconst 2), (17, .isub), (18, .iaload), (19, .iconst 1), (20, .isub), (21, .invokestatic 55), (24, .ifCond .ne (5)), (27, .iconst (-1)), (28, .ireturn), (29, .aload_n 0), (30, .getfield 35), (33, .bipush 60), (35, .iload_n 1), (36, .iconst 2), (37, .isub), (38, .imul), (39, .iload_n 2), (40, .iadd), (41, .iaload), (42, .ireturn)]
def ke_Model_state : kb_m := (⟨"BindingKernelModel", "state", "(II)I"⟩, prog_8_method_35_code, 3, some .int, 6, 2, false, 1, 22, ki_Model_state)
abbrev kz_Model_pass : Nat := 56
def ki_Model_pass : List (Nat × Jvm.ClassFile.Instr) := [(0, .iload_n 1), (1, .iconst 1), (2, .bipush 50), (4, .invokestatic 55), (7, .ifCond .eq (16)), (10, .aload_n 0), (11, .aload_n 0), (12, .getfield 59), (15, .iload_n 1), (16, .iadd), (17, .invokevirtual 78), (20, .goto (4)), (23, .iconst (-1)), (24, .ireturn)]
def ke_Model_pass : kb_m := (⟨"BindingKernelModel", "pass", "(I)I"⟩, prog_8_method_36_code, 2, some .int, 6, 1, false, 1, 25, ki_Model_pass)
abbrev kz_Model_time : Nat := 57
def ki_Model_time : List (Nat × Jvm.ClassFile.Instr) := [(0, .aload_n 0), (1, .getfield 59), (4, .ireturn)]
def ke_Model_time : kb_m := (⟨"BindingKernelModel", "time", "()I"⟩, prog_8_method_37_code, 1, some .int, 6, 0, false, 0, 0, ki_Model_time)
abbrev kz_Model_losses : Nat := 58
def ki_Model_losses : List (Nat × Jvm.ClassFile.Instr) := [(0, .iload_n 1), (1, .iconst 0), (2, .iconst 3), (3, .invokestatic 55), (6, .ifCond .ne (7)), (9, .iconst (-1)), (10, .goto (20)), (13, .iload_n 1), (14, .iconst 2), (15, .if_icmp .ge (7)), (18, .iconst 0), (19, .goto (11)), (22, .aload_n 0), (23, .getfield 29), (26, .iload_n 1), (27, .iconst 2), (28, .isub), (29, .iaload), (30, .ireturn)]
def ke_Model_losses : kb_m := (⟨"BindingKernelModel", "losses", "(I)I"⟩, prog_8_method_38_code, 2, some .int, 6, 1, false, 1, 22, ki_Model_losses)
abbrev kz_Model_transfers : Nat := 59
def ki_Model_transfers : List (Nat × Jvm.ClassFile.Instr) := [(0, .iload_n 1), (1, .ifCond .eq (10)), (4, .aload_n 0), (5, .getfield 85), (8, .goto (7)), (11, .aload_n 0), (12, .getfield 106), (15, .ireturn)]
def ke_Model_transfers : kb_m := (⟨"BindingKernelModel", "transfers", "(Z)I"⟩, prog_8_method_39_code, 2, some .int, 6, 1, false, 0, 0, ki_Model_transfers)
abbrev kz_App_appendWord : Nat := 60
def ki_App_appendWord : List (Nat × Jvm.ClassFile.Instr) := [(0, .iload_n 1), (1, .invokestatic 39), (4, .ifCond .eq (11)), (7, .aload_n 0), (8, .iload_n 1), (9, .invokevirtual 43), (12, .ifCond .ne (5)), (15, .iconst 0), (16, .ireturn), (17, .aload_n 0), (18, .getfield 9), (21, .iload_n 1), (22, .iaload), (23, .istore_n 3), (24, .aload_n 0), (25, .getfield 9), (28, .iload_n 1), (29, .dup2), (30, .iaload), (31, .iconst 1), (32, .iadd), (33, .iastore), (34, .aload_n 0), (35, .aload_n 0), (36, .iload_n 1), (37, .iload_n 3), (38, .invokevirtual 46), (41, .iload_n 3), (42, .iload_n 2), (43, .invokevirtual 50), (46, .ireturn)]
def ke_App_appendWord : kb_m := (⟨"BindingKernel$Application", "appendWord", "(II)Z"⟩, prog_2_method_2_code, 4, some .boolean, 4, 2, false, 5, 132, ki_App_appendWord)
abbrev kz_App_writeWord : Nat := 61
def ki_App_writeWord : List (Nat × Jvm.ClassFile.Instr) := [(0, .aload_n 0), (1, .aload_n 0), (2, .iload_n 1), (3, .iload_n 2), (4, .invokevirtual 46), (7, .iload_n 2), (8, .iload_n 3), (9, .invokevirtual 50), (12, .ireturn)]
def ke_App_writeWord : kb_m := (⟨"BindingKernel$Application", "writeWord", "(III)Z"⟩, prog_2_method_3_code, 4, some .boolean, 4, 3, false, 5, 132, ki_App_writeWord)
abbrev kz_App_readWord : Nat := 62
def ki_App_readWord : List (Nat × Jvm.ClassFile.Instr) := [(0, .aload_n 0), (1, .iload_n 1), (2, .iload_n 2), (3, .invokevirtual 46), (6, .astore_n 3), (7, .aload_n 3), (8, .ifnonnull (7)), (11, .iconst 0), (12, .goto (20)), (15, .aload_n 0), (16, .getfield 24), (19, .getfield 54), (22, .aload_n 3), (23, .getfield 60), (26, .iload_n 2), (27, .iconst 4), (28, .irem), (29, .invokevirtual 63), (32, .ireturn)]
def ke_App_readWord : kb_m := (⟨"BindingKernel$Application", "readWord", "(II)I"⟩, prog_2_method_4_code, 4, some .int, 4, 2, false, 5, 132, ki_App_readWord)
abbrev kz_App_lengthOf : Nat := 63
def ki_App_lengthOf : List (Nat × Jvm.ClassFile.Instr) := [(0, .iload_n 1), (1, .invokestatic 39), (4, .ifCond .eq (12)), (7, .aload_n 0), (8, .getfield 9), (11, .iload_n 1), (12, .iaload), (13, .goto (4)), (16, .iconst (-1)), (17, .ireturn)]
def ke_App_lengthOf : kb_m := (⟨"BindingKernel$Application", "lengthOf", "(I)I"⟩, prog_2_method_5_code, 2, some .int, 4, 1, false, 1, 20, ki_App_lengthOf)
abbrev kz_App_eraseFile : Nat := 64
def ki_App_eraseFile : List (Nat × Jvm.ClassFile.Instr) := [(0, .iload_n 1), (1, .invokestatic 39), (4, .ifCond .ne (5)), (7, .iconst (-1)), (8, .ireturn), (9, .iconst 0), (10, .istore_n 2), (11, .iload_n 1), (12, .bipush 6), (14, .imul), (15, .istore_n 3), (16, .iload_n 3), (17, .iload_n 1), (18, .iconst 1), (19, .iadd), (20, .bipush 6), (22, .imul), (23, .if_icmp .ge (27)), (26, .aload_n 0), (27, .getfield 15), (30, .iload_n 3), (31, .iaload), (32, .iconst (-1)), (33, .if_icmp .eq (11)), (36, .aload_n 0), (37, .iload_n 3), (38, .invokevirtual 69), (41, .iinc 2 (1)), (44, .iinc 3 (1)), (47, .goto (-31)), (50, .aload_n 0), (51, .getfield 9), (54, .iload_n 1), (55, .iconst 0), (56, .iastore), (57, .iload_n 2), (58, .ireturn)]
def ke_App_eraseFile : kb_m := (⟨"BindingKernel$Application", "eraseFile", "(I)I"⟩, prog_2_method_6_code, 4, some .int, 4, 1, false, 3, 64, ki_App_eraseFile)
abbrev kz_App_storeAllChanged : Nat := 65
def ki_App_storeAllChanged : List (Nat × Jvm.ClassFile.Instr) := [(0, .aload_n 0), (1, .getfield 73), (4, .istore_n 1), (5, .aload_n 0), (6, .getfield 20), (9, .astore_n 2), (10, .aload_n 2), (11, .arraylength), (12, .istore_n 3), (13, .iconst 0), (14, .istore 4), (16, .iload 4), (18, .iload_n 3), (19, .if_icmp .ge (21)), (22, .aload_n 2), (23, .iload 4), (25, .aaload), (26, .astore 5), (28, .aload_n 0), (29, .aload 5), (31, .invokevirtual 76), (34, .iinc 4 (1)), (37, .goto (-21)), (40, .aload_n 0), (41, .getfield 73), (44, .iload_n 1), (45, .isub), (46, .ireturn)]
def ke_App_storeAllChanged : kb_m := (⟨"BindingKernel$Application", "storeAllChanged", "()I"⟩, prog_2_method_7_code, 6, some .int, 4, 0, false, 3, 84, ki_App_storeAllChanged)
abbrev kz_App_giveUpOldestFrame : Nat := 66
def ki_App_giveUpOldestFrame : List (Nat × Jvm.ClassFile.Instr) := [(0, .aload_n 0), (1, .invokevirtual 80), (4, .astore_n 1), (5, .aload_n 1), (6, .ifnonnull (5)), (9, .iconst 0), (10, .ireturn), (11, .aload_n 0), (12, .aload_n 1), (13, .invokevirtual 76), (16, .aload_n 0), (17, .aload_n 1), (18, .invokevirtual 84), (21, .iconst 1), (22, .ireturn)]
def ke_App_giveUpOldestFrame : kb_m := (⟨"BindingKernel$Application", "giveUpOldestFrame", "()Z"⟩, prog_2_method_8_code, 2, some .boolean, 4, 0, false, 3, 84, ki_App_giveUpOldestFrame)
abbrev kz_App_isFile : Nat := 67
def ki_App_isFile : List (Nat × Jvm.ClassFile.Instr) := [(0, .iload_n 0), (1, .ifCond .lt (13)), (4, .iload_n 0), (5, .bipush 6), (7, .if_icmp .ge (7)), (10, .iconst 1), (11, .goto (4)), (14, .iconst 0), (15, .ireturn)]
def ke_App_isFile : kb_m := (⟨"BindingKernel$Application", "isFile", "(I)Z"⟩, prog_2_method_9_code, 1, some .boolean, 4, 1, true, 0, 0, ki_App_isFile)
abbrev kz_App_makeRoomForWord : Nat := 68
def ki_App_makeRoomForWord : List (Nat × Jvm.ClassFile.Instr) := [(0, .aload_n 0), (1, .getfield 9), (4, .iload_n 1), (5, .iaload), (6, .iconst 4), (7, .irem), (8, .ifCond .eq (5)), (11, .iconst 1), (12, .ireturn), (13, .aload_n 0), (14, .getfield 9), (17, .iload_n 1), (18, .iaload), (19, .iconst 4), (20, .idiv), (21, .istore_n 2), (22, .iload_n 2), (23, .bipush 6), (25, .if_icmp .ge (20)), (28, .aload_n 0), (29, .getfield 24), (32, .getfield 87), (35, .aload_n 0), (36, .getfield 28), (39, .invokevirtual 90), (42, .ifCond .eq (5)), (45, .iconst 0), (46, .ireturn), (47, .aload_n 0), (48, .getfield 24), (51, .aload_n 0), (52, .getfield 28), (55, .iconst 1), (56, .invokevirtual 93), (59, .istore_n 3), (60, .aload_n 0), (61, .getfield 15), (64, .iload_n 1), (65, .bipush 6), (67, .imul), (68, .iload_n 2), (69, .iadd), (70, .iload_n 3), (71, .iastore), (72, .iload_n 3), (73, .iconst (-1)), (74, .if_icmp .eq (7)), (77, .iconst 1), (78, .goto (4)), (81, .iconst 0), (82, .ireturn)]
def ke_App_makeRoomForWord : kb_m := (⟨"BindingKernel$Application", "makeRoomForWord", "(I)Z"⟩, prog_2_method_10_code, 4, some .boolean, 4, 1, false, 4, 108, ki_App_makeRoomForWord)
abbrev kz_App_changeWord : Nat := 69
def ki_App_changeWord : List (Nat × Jvm.ClassFile.Instr) := [(0, .aload_n 1), (1, .ifnonnull (5)), (4, .iconst 0), (5, .ireturn), (6, .aload_n 1), (7, .iconst 1), (8, .putfield 97), (11, .aload_n 0), (12, .getfield 24), (15, .getfield 54), (18, .aload_n 1), (19, .getfield 60), (22, .iload_n 2), (23, .iconst 4), (24, .irem), (25, .iload_n 3), (26, .invokevirtual 101), (29, .ireturn)]
def ke_App_changeWord : kb_m := (⟨"BindingKernel$Application", "changeWord", "(LBindingKernel$Slot;II)Z"⟩, prog_2_method_11_code, 4, some .boolean, 4, 3, false, 3, 66, ki_App_changeWord)
abbrev kz_App_openPartOf : Nat := 70
def ki_App_openPartOf : List (Nat × Jvm.ClassFile.Instr) := [(0, .iload_n 1), (1, .invokestatic 39), (4, .ifCond .eq (17)), (7, .iload_n 2), (8, .ifCond .lt (13)), (11, .iload_n 2), (12, .aload_n 0), (13, .getfield 9), (16, .iload_n 1), (17, .iaload), (18, .if_icmp .lt (5)), (21, .aconst_null), (22, .areturn), (23, .iload_n 1), (24, .bipush 6), (26, .imul), (27, .iload_n 2), (28, .iconst 4), (29, .idiv), (30, .iadd), (31, .istore_n 3), (32, .aload_n 0), (33, .iload_n 3), (34, .invokevirtual 105), (37, .astore 4), (39, .aload 4), (41, .ifnonnull (5)), (44, .aconst_null), (45, .areturn), (46, .aload 4), (48, .invokevirtual 109), (51, .ifCond .eq (20)), (54, .aload 4), (56, .aload_n 0), (57, .getfield 24), (60, .aload_n 0), (61, .getfield 28), (64, .iconst 0), (65, .invokevirtual 93), (68, .putfield 60), (71, .aload 4), (73, .getfield 113), (76, .iload_n 3), (77, .if_icmp .eq (16)), (80, .aload_n 0), (81, .aload 4), (83, .invokevirtual 76), (86, .aload_n 0), (87, .aload 4), (89, .iload_n 3), (90, .invokevirtual 116), (93, .aload_n 0), (94, .dup), (95, .getfield 120), (98, .iconst 1), (99, .iadd), (100, .putfield 120), (103, .aload 4), (105, .aload_n 0), (106, .getfield 120), (109, .putfield 123), (112, .aload 4), (114, .areturn)]
def ke_App_openPartOf : kb_m := (⟨"BindingKernel$Application", "openPartOf", "(II)LBindingKernel$Slot;"⟩, prog_2_method_12_code, 5, some (.object "BindingKernel$Slot"), 4, 2, false, 4, 108, ki_App_openPartOf)
abbrev kz_App_slotFor : Nat := 71
def ki_App_slotFor : List (Nat × Jvm.ClassFile.Instr) := [(0, .aload_n 0), (1, .iload_n 1), (2, .invokevirtual 126), (5, .astore_n 2), (6, .aload_n 2), (7, .ifnonnull (9)), (10, .aload_n 0), (11, .iconst (-1)), (12, .invokevirtual 126), (15, .astore_n 2), (16, .aload_n 2), (17, .ifnonnull (10)), (20, .aload_n 0), (21, .invokevirtual 80), (24, .goto (4)), (27, .aload_n 2), (28, .areturn)]
def ke_App_slotFor : kb_m := (⟨"BindingKernel$Application", "slotFor", "(I)LBindingKernel$Slot;"⟩, prog_2_method_13_code, 3, some (.object "BindingKernel$Slot"), 4, 1, false, 2, 45, ki_App_slotFor)
abbrev kz_App_slotOf : Nat := 72
def ki_App_slotOf : List (Nat × Jvm.ClassFile.Instr) := [(0, .aload_n 0), (1, .getfield 20), (4, .astore_n 2), (5, .aload_n 2), (6, .arraylength), (7, .istore_n 3), (8, .iconst 0), (9, .istore 4), (11, .iload 4), (13, .iload_n 3), (14, .if_icmp .ge (27)), (17, .aload_n 2), (18, .iload 4), (20, .aaload), (21, .astore 5), (23, .aload 5), (25, .getfield 113), (28, .iload_n 1), (29, .if_icmp .ne (6)), (32, .aload 5), (34, .areturn), (35, .iinc 4 (1)), (38, .goto (-27)), (41, .aconst_null), (42, .areturn)]
def ke_App_slotOf : kb_m := (⟨"BindingKernel$Application", "slotOf", "(I)LBindingKernel$Slot;"⟩, prog_2_method_14_code, 6, some (.object "BindingKernel$Slot"), 4, 1, false, 0, 0, ki_App_slotOf)
abbrev kz_App_oldestSlot : Nat := 73
def ki_App_oldestSlot : List (Nat × Jvm.ClassFile.Instr) := [(0, .aconst_null), (1, .astore_n 1), (2, .aload_n 0), (3, .getfield 20), (6, .astore_n 2), (7, .aload_n 2), (8, .arraylength), (9, .istore_n 3), (10, .iconst 0), (11, .istore 4), (13, .iload 4), (15, .iload_n 3), (16, .if_icmp .ge (42)), (19, .aload_n 2), (20, .iload 4), (22, .aaload), (23, .astore 5), (25, .aload 5), (27, .invokevirtual 109), (30, .ifCond .ne (22)), (33, .aload_n 1), (34, .ifnull (15)), (37, .aload 5), (39, .getfield 123), (42, .aload_n 1), (43, .getfield 123), (46, .if_icmp .ge (6)), (49, .aload 5), (51, .astore_n 1), (52, .iinc 4 (1)), (55, .goto (-42)), (58, .aload_n 1), (59, .areturn)]
def ke_App_oldestSlot : kb_m := (⟨"BindingKernel$Application", "oldestSlot", "()LBindingKernel$Slot;"⟩, prog_2_method_15_code, 6, some (.object "BindingKernel$Slot"), 4, 0, false, 1, 20, ki_App_oldestSlot)
abbrev kz_App_load : Nat := 74
def ki_App_load : List (Nat × Jvm.ClassFile.Instr) := [(0, .aload_n 0), (1, .getfield 24), (4, .getfield 54), (7, .aload_n 0), (8, .getfield 24), (11, .getfield 87), (14, .aload_n 0), (15, .iload_n 2), (16, .invokevirtual 129), (19, .aload_n 1), (20, .getfield 60), (23, .invokevirtual 133), (26, .aload_n 1), (27, .iload_n 2), (28, .putfield 113), (31, .aload_n 1), (32, .iconst 0), (33, .putfield 97), (36, .aload_n 0), (37, .dup), (38, .getfield 137), (41, .iconst 1), (42, .iadd), (43, .putfield 137), (46, .return_)]
def ke_App_load : kb_m := (⟨"BindingKernel$Application", "load", "(LBindingKernel$Slot;I)V"⟩, prog_2_method_16_code, 3, none, 4, 2, false, 2, 63, ki_App_load)
abbrev kz_App_storeIfChanged : Nat := 75
def ki_App_storeIfChanged : List (Nat × Jvm.ClassFile.Instr) := [(0, .aload_n 1), (1, .getfield 97), (4, .ifCond .ne (4)), (7, .return_), (8, .aload_n 0), (9, .getfield 24), (12, .getfield 87), (15, .aload_n 0), (16, .getfield 24), (19, .getfield 54), (22, .aload_n 1), (23, .getfield 60), (26, .aload_n 0), (27, .aload_n 1), (28, .getfield 113), (31, .invokevirtual 129), (34, .invokevirtual 133), (37, .aload_n 1), (38, .iconst 0), (39, .putfield 97), (42, .aload_n 0), (43, .dup), (44, .getfield 73), (47, .iconst 1), (48, .iadd), (49, .putfield 73), (52, .return_)]
def ke_App_storeIfChanged : kb_m := (⟨"BindingKernel$Application", "storeIfChanged", "(LBindingKernel$Slot;)V"⟩, prog_2_method_17_code, 2, none, 4, 1, false, 2, 63, ki_App_storeIfChanged)
abbrev kz_App_blockOf : Nat := 76
def ki_App_blockOf : List (Nat × Jvm.ClassFile.Instr) := [(0, .iload_n 1), (1, .ifCond .lt (21)), (4, .iload_n 1), (5, .aload_n 0), (6, .getfield 15), (9, .arraylength), (10, .if_icmp .ge (12)), (13, .aload_n 0), (14, .getfield 15), (17, .iload_n 1), (18, .iaload), (19, .goto (4)), (22, .iconst (-1)), (23, .ireturn)]
def ke_App_blockOf : kb_m := (⟨"BindingKernel$Application", "blockOf", "(I)I"⟩, prog_2_method_18_code, 2, some .int, 4, 1, false, 0, 0, ki_App_blockOf)
abbrev kz_App_dropPart : Nat := 77
def ki_App_dropPart : List (Nat × Jvm.ClassFile.Instr) := [(0, .aload_n 0), (1, .iload_n 1), (2, .invokevirtual 126), (5, .astore_n 2), (6, .aload_n 2), (7, .ifnull (8)), (10, .aload_n 0), (11, .aload_n 2), (12, .invokevirtual 84), (15, .aload_n 0), (16, .getfield 24), (19, .getfield 87), (22, .aload_n 0), (23, .getfield 15), (26, .iload_n 1), (27, .iaload), (28, .invokevirtual 140), (31, .aload_n 0), (32, .getfield 15), (35, .iload_n 1), (36, .iconst (-1)), (37, .iastore), (38, .return_)]
def ke_App_dropPart : kb_m := (⟨"BindingKernel$Application", "dropPart", "(I)V"⟩, prog_2_method_19_code, 3, none, 4, 1, false, 2, 42, ki_App_dropPart)
abbrev kz_App_giveFrameBack : Nat := 78
def ki_App_giveFrameBack : List (Nat × Jvm.ClassFile.Instr) := [(0, .aload_n 0), (1, .getfield 24), (4, .getfield 54), (7, .aload_n 1), (8, .getfield 60), (11, .invokevirtual 140), (14, .aload_n 1), (15, .iconst (-1)), (16, .putfield 60), (19, .aload_n 1), (20, .iconst (-1)), (21, .putfield 113), (24, .aload_n 1), (25, .iconst 0), (26, .putfield 97), (29, .return_)]
def ke_App_giveFrameBack : kb_m := (⟨"BindingKernel$Application", "giveFrameBack", "(LBindingKernel$Slot;)V"⟩, prog_2_method_20_code, 2, none, 4, 1, false, 1, 21, ki_App_giveFrameBack)
abbrev kz_Guest_hasAllTickets : Nat := 79
def ki_Guest_hasAllTickets : List (Nat × Jvm.ClassFile.Instr) := [(0, .aload_n 0), (1, .getfield 32), (4, .bipush 60), (6, .if_icmp .lt (7)), (9, .iconst 1), (10, .goto (4)), (13, .iconst 0), (14, .ireturn)]
def ke_Guest_hasAllTickets : kb_m := (⟨"BindingKernel$Guest", "hasAllTickets", "()Z"⟩, prog_3_method_2_code, 1, some .boolean, 3, 0, false, 0, 0, ki_Guest_hasAllTickets)
abbrev kz_Guest_addTicket : Nat := 80
def ki_Guest_addTicket : List (Nat × Jvm.ClassFile.Instr) := [(0, .aload_n 0), (1, .invokevirtual 36), (4, .ifCond .eq (5)), (7, .iconst (-1)), (8, .ireturn), (9, .aload_n 0), (10, .getfield 32), (13, .istore_n 3), (14, .aload_n 0), (15, .getfield 9), (18, .iload_n 3), (19, .iload_n 1), (20, .bastore), (21, .aload_n 0), (22, .getfield 15), (25, .iload_n 3), (26, .iload_n 2), (27, .iastore), (28, .aload_n 0), (29, .getfield 19), (32, .iload_n 3), (33, .iconst 2), (34, .iastore), (35, .aload_n 0), (36, .dup), (37, .getfield 32), (40, .iconst 1), (41, .iadd), (42, .putfield 32), (45, .iload_n 3), (46, .ireturn)]
def ke_Guest_addTicket : kb_m := (⟨"BindingKernel$Guest", "addTicket", "(ZI)I"⟩, prog_3_method_3_code, 4, some .int, 3, 2, false, 1, 20, ki_Guest_addTicket)
abbrev kz_Guest_stateOf : Nat := 81
def ki_Guest_stateOf : List (Nat × Jvm.ClassFile.Instr) := [(0, .iload_n 1), (1, .ifCond .lt (20)), (4, .iload_n 1), (5, .aload_n 0), (6, .getfield 32), (9, .if_icmp .ge (12)), (12, .aload_n 0), (13, .getfield 19), (16, .iload_n 1), (17, .iaload), (18, .goto (4)), (21, .iconst (-1)), (22, .ireturn)]
def ke_Guest_stateOf : kb_m := (⟨"BindingKernel$Guest", "stateOf", "(I)I"⟩, prog_3_method_4_code, 2, some .int, 3, 1, false, 0, 0, ki_Guest_stateOf)
abbrev kz_Guest_putWord : Nat := 82
def ki_Guest_putWord : List (Nat × Jvm.ClassFile.Instr) := [(0, .aload_n 0), (1, .iload_n 1), (2, .iconst 0), (3, .invokevirtual 40), (6, .ifCond .eq (25)), (9, .aload_n 0), (10, .getfield 25), (13, .aload_n 0), (14, .getfield 15), (17, .iload_n 1), (18, .iaload), (19, .iload_n 2), (20, .iload_n 3), (21, .invokevirtual 44), (24, .ifCond .eq (7)), (27, .iconst 1), (28, .goto (4)), (31, .iconst 0), (32, .ireturn)]
def ke_Guest_putWord : kb_m := (⟨"BindingKernel$Guest", "putWord", "(III)Z"⟩, prog_3_method_5_code, 4, some .boolean, 3, 3, false, 3, 66, ki_Guest_putWord)
abbrev kz_Guest_getWord : Nat := 83
def ki_Guest_getWord : List (Nat × Jvm.ClassFile.Instr) := [(0, .aload_n 0), (1, .iload_n 1), (2, .iconst 0), (3, .invokevirtual 40), (6, .ifCond .eq (20)), (9, .aload_n 0), (10, .getfield 25), (13, .aload_n 0), (14, .getfield 15), (17, .iload_n 1), (18, .iaload), (19, .iload_n 2), (20, .invokevirtual 50), (23, .goto (4)), (26, .iconst 0), (27, .ireturn)]
def ke_Guest_getWord : kb_m := (⟨"BindingKernel$Guest", "getWord", "(II)I"⟩, prog_3_method_6_code, 3, some .int, 3, 2, false, 3, 65, ki_Guest_getWord)
abbrev kz_Guest_copyWords : Nat := 84
def ki_Guest_copyWords : List (Nat × Jvm.ClassFile.Instr) := [(0, .aload_n 0), (1, .iload_n 1), (2, .iconst 0), (3, .invokevirtual 40), (6, .ifCond .eq (37)), (9, .aload_n 0), (10, .iload_n 2), (11, .iconst 1), (12, .invokevirtual 40), (15, .ifCond .eq (28)), (18, .aload_n 0), (19, .getfield 29), (22, .aload_n 0), (23, .getfield 25), (26, .aload_n 0), (27, .getfield 15), (30, .iload_n 1), (31, .iaload), (32, .aload_n 0), (33, .getfield 15), (36, .iload_n 2), (37, .iaload), (38, .invokevirtual 54), (41, .iconst 1), (42, .ireturn), (43, .aload_n 0), (44, .iload_n 1), (45, .iconst 1), (46, .invokevirtual 40), (49, .ifCond .eq (37)), (52, .aload_n 0), (53, .iload_n 2), (54, .iconst 0), (55, .invokevirtual 40), (58, .ifCond .eq (28)), (61, .aload_n 0), (62, .getfield 25), (65, .aload_n 0), (66, .getfield 29), (69, .aload_n 0), (70, .getfield 15), (73, .iload_n 1), (74, .iaload), (75, .aload_n 0), (76, .getfield 15), (79, .iload_n 2), (80, .iaload), (81, .invokevirtual 54), (84, .iconst 1), (85, .ireturn), (86, .iconst 0), (87, .ireturn)]
def ke_Guest_copyWords : kb_m := (⟨"BindingKernel$Guest", "copyWords", "(II)Z"⟩, prog_3_method_7_code, 3, some .boolean, 3, 2, false, 3, 65, ki_Guest_copyWords)
abbrev kz_Guest_giveBack : Nat := 85
def ki_Guest_giveBack : List (Nat × Jvm.ClassFile.Instr) := [(0, .aload_n 0), (1, .iload_n 1), (2, .invokevirtual 58), (5, .ifCond .ne (5)), (8, .iconst 0), (9, .ireturn), (10, .aload_n 0), (11, .getfield 19), (14, .iload_n 1), (15, .iconst 0), (16, .iastore), (17, .aload_n 0), (18, .iload_n 1), (19, .invokevirtual 62), (22, .aload_n 0), (23, .getfield 15), (26, .iload_n 1), (27, .iaload), (28, .invokevirtual 66), (31, .iconst 1), (32, .ireturn)]
def ke_Guest_giveBack : kb_m := (⟨"BindingKernel$Guest", "giveBack", "(I)Z"⟩, prog_3_method_8_code, 2, some .boolean, 3, 1, false, 2, 43, ki_Guest_giveBack)
abbrev kz_Guest_askFor : Nat := 86
def ki_Guest_askFor : List (Nat × Jvm.ClassFile.Instr) := [(0, .aload_n 0), (1, .iload_n 1), (2, .invokevirtual 70), (5, .iconst 2), (6, .if_icmp .eq (5)), (9, .iconst 0), (10, .ireturn), (11, .aload_n 0), (12, .getfield 19), (15, .iload_n 1), (16, .iconst 3), (17, .iastore), (18, .aload_n 0), (19, .getfield 22), (22, .iload_n 1), (23, .iload_n 2), (24, .iastore), (25, .iconst 1), (26, .ireturn)]
def ke_Guest_askFor : kb_m := (⟨"BindingKernel$Guest", "askFor", "(II)Z"⟩, prog_3_method_9_code, 3, some .boolean, 3, 2, false, 1, 21, ki_Guest_askFor)
abbrev kz_Guest_askForLastOf : Nat := 87
def ki_Guest_askForLastOf : List (Nat × Jvm.ClassFile.Instr) := [(0, .aload_n 0), (1, .getfield 32), (4, .iconst 1), (5, .isub), (6, .istore_n 3), (7, .iload_n 3), (8, .ifCond .lt (44)), (11, .aload_n 0), (12, .getfield 19), (15, .iload_n 3), (16, .iaload), (17, .iconst 2), (18, .if_icmp .ne (28)), (21, .aload_n 0), (22, .getfield 9), (25, .iload_n 3), (26, .baload), (27, .iload_n 1), (28, .if_icmp .ne (18)), (31, .aload_n 0), (32, .getfield 19), (35, .iload_n 3), (36, .iconst 3), (37, .iastore), (38, .aload_n 0), (39, .getfield 22), (42, .iload_n 3), (43, .iload_n 2), (44, .iastore), (45, .return_), (46, .iinc 3 (-1)), (49, .goto (-42)), (52, .return_)]
def ke_Guest_askForLastOf : kb_m := (⟨"BindingKernel$Guest", "askForLastOf", "(ZI)V"⟩, prog_3_method_10_code, 4, none, 3, 2, false, 0, 0, ki_Guest_askForLastOf)
abbrev kz_Guest_earliestDeadline : Nat := 88
def ki_Guest_earliestDeadline : List (Nat × Jvm.ClassFile.Instr) := [(0, .ldc 74), (2, .istore_n 2), (3, .iconst 0), (4, .istore_n 3), (5, .iload_n 3), (6, .aload_n 0), (7, .getfield 32), (10, .if_icmp .ge (46)), (13, .aload_n 0), (14, .getfield 19), (17, .iload_n 3), (18, .iaload), (19, .iconst 3), (20, .if_icmp .ne (30)), (23, .aload_n 0), (24, .getfield 9), (27, .iload_n 3), (28, .baload), (29, .iload_n 1), (30, .if_icmp .ne (20)), (33, .aload_n 0), (34, .getfield 22), (37, .iload_n 3), (38, .iaload), (39, .iload_n 2), (40, .if_icmp .ge (10)), (43, .aload_n 0), (44, .getfield 22), (47, .iload_n 3), (48, .iaload), (49, .istore_n 2), (50, .iinc 3 (1)), (53, .goto (-48)), (56, .iload_n 2), (57, .ireturn)]
def ke_Guest_earliestDeadline : kb_m := (⟨"BindingKernel$Guest", "earliestDeadline", "(Z)I"⟩, prog_3_method_11_code, 4, some .int, 3, 1, false, 0, 0, ki_Guest_earliestDeadline)
abbrev kz_Guest_loseAllDue : Nat := 89
def ki_Guest_loseAllDue : List (Nat × Jvm.ClassFile.Instr) := [(0, .iconst 0), (1, .istore_n 2), (2, .iconst 0), (3, .istore_n 3), (4, .iload_n 3), (5, .aload_n 0), (6, .getfield 32), (9, .if_icmp .ge (53)), (12, .aload_n 0), (13, .getfield 19), (16, .iload_n 3), (17, .iaload), (18, .iconst 3), (19, .if_icmp .ne (37)), (22, .aload_n 0), (23, .getfield 22), (26, .iload_n 3), (27, .iaload), (28, .iload_n 1), (29, .if_icmp .gt (27)), (32, .aload_n 0), (33, .getfield 19), (36, .iload_n 3), (37, .iconst 1), (38, .iastore), (39, .aload_n 0), (40, .iload_n 3), (41, .invokevirtual 62), (44, .aload_n 0), (45, .getfield 15), (48, .iload_n 3), (49, .iaload), (50, .invokevirtual 66), (53, .iinc 2 (1)), (56, .iinc 3 (1)), (59, .goto (-55)), (62, .aload_n 0), (63, .dup), (64, .getfield 75), (67, .iload_n 2), (68, .iadd), (69, .putfield 75), (72, .iload_n 2), (73, .ireturn)]
def ke_Guest_loseAllDue : kb_m := (⟨"BindingKernel$Guest", "loseAllDue", "(I)I"⟩, prog_3_method_12_code, 4, some .int, 3, 1, false, 1, 21, ki_Guest_loseAllDue)
abbrev kz_Guest_isLive : Nat := 90
def ki_Guest_isLive : List (Nat × Jvm.ClassFile.Instr) := [(0, .aload_n 0), (1, .iload_n 1), (2, .invokevirtual 70), (5, .istore_n 2), (6, .iload_n 2), (7, .iconst 2), (8, .if_icmp .eq (8)), (11, .iload_n 2), (12, .iconst 3), (13, .if_icmp .ne (7)), (16, .iconst 1), (17, .goto (4)), (20, .iconst 0), (21, .ireturn)]
def ke_Guest_isLive : kb_m := (⟨"BindingKernel$Guest", "isLive", "(I)Z"⟩, prog_3_method_13_code, 3, some .boolean, 3, 1, false, 1, 21, ki_Guest_isLive)
abbrev kz_Guest_isLiveOf : Nat := 91
def ki_Guest_isLiveOf : List (Nat × Jvm.ClassFile.Instr) := [(0, .aload_n 0), (1, .iload_n 1), (2, .invokevirtual 58), (5, .ifCond .eq (17)), (8, .aload_n 0), (9, .getfield 9), (12, .iload_n 1), (13, .baload), (14, .iload_n 2), (15, .if_icmp .ne (7)), (18, .iconst 1), (19, .goto (4)), (22, .iconst 0), (23, .ireturn)]
def ke_Guest_isLiveOf : kb_m := (⟨"BindingKernel$Guest", "isLiveOf", "(IZ)Z"⟩, prog_3_method_14_code, 3, some .boolean, 3, 2, false, 2, 43, ki_Guest_isLiveOf)
abbrev kz_Guest_poolOf : Nat := 92
def ki_Guest_poolOf : List (Nat × Jvm.ClassFile.Instr) := [(0, .aload_n 0), (1, .getfield 9), (4, .iload_n 1), (5, .baload), (6, .ifCond .eq (10)), (9, .aload_n 0), (10, .getfield 29), (13, .goto (7)), (16, .aload_n 0), (17, .getfield 25), (20, .areturn)]
def ke_Guest_poolOf : kb_m := (⟨"BindingKernel$Guest", "poolOf", "(I)LBindingKernel$Pool;"⟩, prog_3_method_15_code, 2, some (.object "BindingKernel$Pool"), 3, 1, false, 0, 0, ki_Guest_poolOf)
abbrev kz_Kernel_poolOf : Nat := 93
def ki_Kernel_poolOf : List (Nat × Jvm.ClassFile.Instr) := [(0, .iload_n 1), (1, .ifCond .eq (10)), (4, .aload_n 0), (5, .getfield 20), (8, .goto (7)), (11, .aload_n 0), (12, .getfield 14), (15, .areturn)]
def ke_Kernel_poolOf : kb_m := (⟨"BindingKernel$Kernel", "poolOf", "(Z)LBindingKernel$Pool;"⟩, prog_4_method_2_code, 2, some (.object "BindingKernel$Pool"), 1, 1, false, 0, 0, ki_Kernel_poolOf)
abbrev kz_Kernel_guestOf : Nat := 94
def ki_Kernel_guestOf : List (Nat × Jvm.ClassFile.Instr) := [(0, .iload_n 1), (1, .iconst 2), (2, .if_icmp .ne (8)), (5, .aload_n 0), (6, .getfield 28), (9, .areturn), (10, .iload_n 1), (11, .iconst 3), (12, .if_icmp .ne (10)), (15, .aload_n 0), (16, .getfield 32), (19, .goto (4)), (22, .aconst_null), (23, .areturn)]
def ke_Kernel_guestOf : kb_m := (⟨"BindingKernel$Kernel", "guestOf", "(I)LBindingKernel$Guest;"⟩, prog_4_method_3_code, 2, some (.object "BindingKernel$Guest"), 1, 1, false, 0, 0, ki_Kernel_guestOf)
abbrev kz_Kernel_bindForGuest : Nat := 95
def ki_Kernel_bindForGuest : List (Nat × Jvm.ClassFile.Instr) := [(0, .aload_n 0), (1, .iload_n 1), (2, .invokevirtual 35), (5, .astore_n 3), (6, .aload_n 3), (7, .ifnull (10)), (10, .aload_n 3), (11, .invokevirtual 39), (14, .ifCond .eq (5)), (17, .iconst (-1)), (18, .ireturn), (19, .aload_n 0), (20, .iload_n 1), (21, .iload_n 2), (22, .invokevirtual 43), (25, .istore 4), (27, .iload 4), (29, .ifCond .lt (13)), (32, .aload_n 3), (33, .iload_n 2), (34, .iload 4), (36, .invokevirtual 47), (39, .goto (5)), (42, .iload 4), (44, .ireturn)]
def ke_Kernel_bindForGuest : kb_m := (⟨"BindingKernel$Kernel", "bindForGuest", "(IZ)I"⟩, prog_4_method_4_code, 5, some .int, 1, 2, false, 3, 85, ki_Kernel_bindForGuest)
abbrev kz_Kernel_bindForApplication : Nat := 96
def ki_Kernel_bindForApplication : List (Nat × Jvm.ClassFile.Instr) := [(0, .aload_n 0), (1, .iload_n 1), (2, .iload_n 2), (3, .invokevirtual 43), (6, .istore_n 3), (7, .iload_n 3), (8, .bipush (-3)), (10, .if_icmp .ne (23)), (13, .aload_n 0), (14, .aload_n 0), (15, .iload_n 2), (16, .invokevirtual 51), (19, .invokevirtual 55), (22, .pop), (23, .aload_n 0), (24, .iload_n 2), (25, .invokevirtual 59), (28, .iload_n 1), (29, .invokevirtual 63), (32, .istore_n 3), (33, .iload_n 3), (34, .iconst (-1)), (35, .invokestatic 66), (38, .ireturn)]
def ke_Kernel_bindForApplication : kb_m := (⟨"BindingKernel$Kernel", "bindForApplication", "(IZ)I"⟩, prog_4_method_5_code, 4, some .int, 1, 2, false, 3, 85, ki_Kernel_bindForApplication)
abbrev kz_Kernel_moveTimeTo : Nat := 97
def ki_Kernel_moveTimeTo : List (Nat × Jvm.ClassFile.Instr) := [(0, .aload_n 0), (1, .iload_n 1), (2, .putfield 72), (5, .aload_n 0), (6, .getfield 28), (9, .aload_n 0), (10, .getfield 72), (13, .invokevirtual 76), (16, .aload_n 0), (17, .getfield 32), (20, .aload_n 0), (21, .getfield 72), (24, .invokevirtual 76), (27, .iadd), (28, .ireturn)]
def ke_Kernel_moveTimeTo : kb_m := (⟨"BindingKernel$Kernel", "moveTimeTo", "(I)I"⟩, prog_4_method_6_code, 2, some .int, 1, 1, false, 2, 44, ki_Kernel_moveTimeTo)
abbrev kz_Kernel_claim : Nat := 98
def ki_Kernel_claim : List (Nat × Jvm.ClassFile.Instr) := [(0, .aload_n 0), (1, .iload_n 2), (2, .invokevirtual 59), (5, .astore_n 3), (6, .aload_n 3), (7, .iload_n 1), (8, .invokevirtual 63), (11, .istore 4), (13, .iload 4), (15, .iconst (-1)), (16, .if_icmp .eq (6)), (19, .iload 4), (21, .ireturn), (22, .aload_n 3), (23, .iload_n 1), (24, .invokevirtual 79), (27, .ifCond .eq (6)), (30, .bipush (-2)), (32, .ireturn), (33, .aload_n 0), (34, .iload_n 2), (35, .invokevirtual 51), (38, .ldc 83), (40, .if_icmp .ne (8)), (43, .aload_n 0), (44, .iload_n 2), (45, .invokevirtual 84), (48, .bipush (-3)), (50, .ireturn)]
def ke_Kernel_claim : kb_m := (⟨"BindingKernel$Kernel", "claim", "(IZ)I"⟩, prog_4_method_7_code, 5, some .int, 1, 2, false, 2, 61, ki_Kernel_claim)
abbrev kz_Kernel_askRicherGuest : Nat := 99
def ki_Kernel_askRicherGuest : List (Nat × Jvm.ClassFile.Instr) := [(0, .aload_n 0), (1, .iload_n 1), (2, .invokevirtual 59), (5, .astore_n 2), (6, .aload_n 2), (7, .iconst 2), (8, .invokevirtual 88), (11, .istore_n 3), (12, .aload_n 2), (13, .iconst 3), (14, .invokevirtual 88), (17, .istore 4), (19, .iload_n 3), (20, .iload 4), (22, .if_icmp .lt (10)), (25, .aload_n 0), (26, .getfield 28), (29, .goto (7)), (32, .aload_n 0), (33, .getfield 32), (36, .astore 5), (38, .aload 5), (40, .iload_n 1), (41, .aload_n 0), (42, .getfield 72), (45, .iconst 5), (46, .iadd), (47, .invokevirtual 91), (50, .return_)]
def ke_Kernel_askRicherGuest : kb_m := (⟨"BindingKernel$Kernel", "askRicherGuest", "(Z)V"⟩, prog_4_method_8_code, 6, none, 1, 1, false, 1, 26, ki_Kernel_askRicherGuest)
abbrev kz_Kernel_earliestDeadline : Nat := 100
def ki_Kernel_earliestDeadline : List (Nat × Jvm.ClassFile.Instr) := [(0, .aload_n 0), (1, .getfield 28), (4, .iload_n 1), (5, .invokevirtual 95), (8, .aload_n 0), (9, .getfield 32), (12, .iload_n 1), (13, .invokevirtual 95), (16, .invokestatic 96), (19, .ireturn)]
def ke_Kernel_earliestDeadline : kb_m := (⟨"BindingKernel$Kernel", "earliestDeadline", "(Z)I"⟩, prog_4_method_9_code, 2, some .int, 1, 1, false, 1, 40, ki_Kernel_earliestDeadline)
abbrev kz_Pool_bindFreeOne : Nat := 101
def ki_Pool_bindFreeOne : List (Nat × Jvm.ClassFile.Instr) := [(0, .iconst 0), (1, .istore_n 2), (2, .iload_n 2), (3, .aload_n 0), (4, .getfield 15), (7, .arraylength), (8, .if_icmp .ge (52)), (11, .aload_n 0), (12, .getfield 15), (15, .iload_n 2), (16, .iaload), (17, .iconst (-1)), (18, .if_icmp .ne (36)), (21, .aload_n 0), (22, .getfield 15), (25, .iload_n 2), (26, .iload_n 1), (27, .iastore), (28, .iconst 0), (29, .istore_n 3), (30, .iload_n 3), (31, .iconst 4), (32, .if_icmp .ge (20)), (35, .aload_n 0), (36, .getfield 19), (39, .iload_n 2), (40, .iconst 4), (41, .imul), (42, .iload_n 3), (43, .iadd), (44, .iconst 0), (45, .iastore), (46, .iinc 3 (1)), (49, .goto (-19)), (52, .iload_n 2), (53, .ireturn), (54, .iinc 2 (1)), (57, .goto (-55)), (60, .iconst (-1)), (61, .ireturn)]
def ke_Pool_bindFreeOne : kb_m := (⟨"BindingKernel$Pool", "bindFreeOne", "(I)I"⟩, prog_5_method_2_code, 4, some .int, 2, 1, false, 0, 0, ki_Pool_bindFreeOne)
abbrev kz_Pool_endBinding : Nat := 102
def ki_Pool_endBinding : List (Nat × Jvm.ClassFile.Instr) := [(0, .iload_n 1), (1, .ifCond .lt (19)), (4, .iload_n 1), (5, .aload_n 0), (6, .getfield 15), (9, .arraylength), (10, .if_icmp .ge (10)), (13, .aload_n 0), (14, .getfield 15), (17, .iload_n 1), (18, .iconst (-1)), (19, .iastore), (20, .return_)]
def ke_Pool_endBinding : kb_m := (⟨"BindingKernel$Pool", "endBinding", "(I)V"⟩, prog_5_method_3_code, 2, none, 2, 1, false, 0, 0, ki_Pool_endBinding)
abbrev kz_Pool_countFree : Nat := 103
def ki_Pool_countFree : List (Nat × Jvm.ClassFile.Instr) := [(0, .aload_n 0), (1, .iconst (-1)), (2, .invokevirtual 28), (5, .ireturn)]
def ke_Pool_countFree : kb_m := (⟨"BindingKernel$Pool", "countFree", "()I"⟩, prog_5_method_4_code, 1, some .int, 2, 0, false, 1, 26, ki_Pool_countFree)
abbrev kz_Pool_countHeldBy : Nat := 104
def ki_Pool_countHeldBy : List (Nat × Jvm.ClassFile.Instr) := [(0, .iconst 0), (1, .istore_n 2), (2, .aload_n 0), (3, .getfield 15), (6, .astore_n 3), (7, .aload_n 3), (8, .arraylength), (9, .istore 4), (11, .iconst 0), (12, .istore 5), (14, .iload 5), (16, .iload 4), (18, .if_icmp .ge (24)), (21, .aload_n 3), (22, .iload 5), (24, .iaload), (25, .istore 6), (27, .iload 6), (29, .iload_n 1), (30, .if_icmp .ne (6)), (33, .iinc 2 (1)), (36, .iinc 5 (1)), (39, .goto (-25)), (42, .iload_n 2), (43, .ireturn)]
def ke_Pool_countHeldBy : kb_m := (⟨"BindingKernel$Pool", "countHeldBy", "(I)I"⟩, prog_5_method_5_code, 7, some .int, 2, 1, false, 0, 0, ki_Pool_countHeldBy)
abbrev kz_Pool_hasFullShare : Nat := 105
def ki_Pool_hasFullShare : List (Nat × Jvm.ClassFile.Instr) := [(0, .aload_n 0), (1, .iload_n 1), (2, .invokevirtual 28), (5, .aload_n 0), (6, .getfield 9), (9, .if_icmp .lt (7)), (12, .iconst 1), (13, .goto (4)), (16, .iconst 0), (17, .ireturn)]
def ke_Pool_hasFullShare : kb_m := (⟨"BindingKernel$Pool", "hasFullShare", "(I)Z"⟩, prog_5_method_6_code, 2, some .boolean, 2, 1, false, 1, 26, ki_Pool_hasFullShare)
abbrev kz_Pool_wordAt : Nat := 106
def ki_Pool_wordAt : List (Nat × Jvm.ClassFile.Instr) := [(0, .aload_n 0), (1, .iload_n 1), (2, .iload_n 2), (3, .invokevirtual 32), (6, .ifCond .eq (16)), (9, .aload_n 0), (10, .getfield 19), (13, .iload_n 1), (14, .iconst 4), (15, .imul), (16, .iload_n 2), (17, .iadd), (18, .iaload), (19, .goto (4)), (22, .iconst 0), (23, .ireturn)]
def ke_Pool_wordAt : kb_m := (⟨"BindingKernel$Pool", "wordAt", "(II)I"⟩, prog_5_method_7_code, 3, some .int, 2, 2, false, 2, 43, ki_Pool_wordAt)
abbrev kz_Pool_setWord : Nat := 107
def ki_Pool_setWord : List (Nat × Jvm.ClassFile.Instr) := [(0, .aload_n 0), (1, .iload_n 1), (2, .iload_n 2), (3, .invokevirtual 32), (6, .ifCond .ne (5)), (9, .iconst 0), (10, .ireturn), (11, .aload_n 0), (12, .getfield 19), (15, .iload_n 1), (16, .iconst 4), (17, .imul), (18, .iload_n 2), (19, .iadd), (20, .iload_n 3), (21, .iastore), (22, .iconst 1), (23, .ireturn)]
def ke_Pool_setWord : kb_m := (⟨"BindingKernel$Pool", "setWord", "(III)Z"⟩, prog_5_method_8_code, 4, some .boolean, 2, 3, false, 2, 43, ki_Pool_setWord)
abbrev kz_Pool_takeWordsFrom : Nat := 108
def ki_Pool_takeWordsFrom : List (Nat × Jvm.ClassFile.Instr) := [(0, .aload_n 1), (1, .iload_n 2), (2, .invokevirtual 36), (5, .ifCond .eq (29)), (8, .aload_n 0), (9, .iload_n 3), (10, .invokevirtual 36), (13, .ifCond .eq (21)), (16, .aload_n 1), (17, .getfield 19), (20, .iload_n 2), (21, .iconst 4), (22, .imul), (23, .aload_n 0), (24, .getfield 19), (27, .iload_n 3), (28, .iconst 4), (29, .imul), (30, .iconst 4), (31, .invokestatic 40), (34, .return_)]
def ke_Pool_takeWordsFrom : kb_m := (⟨"BindingKernel$Pool", "takeWordsFrom", "(LBindingKernel$Pool;II)V"⟩, prog_5_method_9_code, 4, none, 2, 3, false, 1, 40, ki_Pool_takeWordsFrom)
abbrev kz_Pool_hasResource : Nat := 109
def ki_Pool_hasResource : List (Nat × Jvm.ClassFile.Instr) := [(0, .iload_n 1), (1, .ifCond .lt (16)), (4, .iload_n 1), (5, .aload_n 0), (6, .getfield 15), (9, .arraylength), (10, .if_icmp .ge (7)), (13, .iconst 1), (14, .goto (4)), (17, .iconst 0), (18, .ireturn)]
def ke_Pool_hasResource : kb_m := (⟨"BindingKernel$Pool", "hasResource", "(I)Z"⟩, prog_5_method_10_code, 2, some .boolean, 2, 1, false, 0, 0, ki_Pool_hasResource)
abbrev kz_Pool_hasWord : Nat := 110
def ki_Pool_hasWord : List (Nat × Jvm.ClassFile.Instr) := [(0, .aload_n 0), (1, .iload_n 1), (2, .invokevirtual 36), (5, .ifCond .eq (16)), (8, .iload_n 2), (9, .ifCond .lt (12)), (12, .iload_n 2), (13, .iconst 4), (14, .if_icmp .ge (7)), (17, .iconst 1), (18, .goto (4)), (21, .iconst 0), (22, .ireturn)]
def ke_Pool_hasWord : kb_m := (⟨"BindingKernel$Pool", "hasWord", "(II)Z"⟩, prog_5_method_11_code, 3, some .boolean, 2, 2, false, 1, 21, ki_Pool_hasWord)
abbrev kz_Slot_isEmpty : Nat := 111
def ki_Slot_isEmpty : List (Nat × Jvm.ClassFile.Instr) := [(0, .aload_n 0), (1, .getfield 9), (4, .iconst (-1)), (5, .if_icmp .ne (7)), (8, .iconst 1), (9, .goto (4)), (12, .iconst 0), (13, .ireturn)]
def ke_Slot_isEmpty : kb_m := (⟨"BindingKernel$Slot", "isEmpty", "()Z"⟩, prog_6_method_2_code, 1, some .boolean, 5, 0, false, 0, 0, ki_Slot_isEmpty)
def kb_mt : List kb_m := [ke_BK_append, ke_BK_write, ke_BK_read, ke_BK_length, ke_BK_erase, ke_BK_sync, ke_BK_squeeze, ke_BK_bind, ke_BK_put, ke_BK_get, ke_BK_copy, ke_BK_release, ke_BK_ask, ke_BK_state, ke_BK_pass, ke_BK_time, ke_BK_free, ke_BK_held, ke_BK_losses, ke_BK_transfers, ke_BK_applicationOf, ke_BK_isEnvironment, ke_Model_within, ke_Model_blocksOf, ke_Model_liveOf, ke_Model_count, ke_Model_free, ke_Model_held, ke_Model_moveTo, ke_Model_earliest, ke_Model_mark, ke_Model_wish, ke_Model_claim, ke_Model_noFile, ke_Model_noWord, ke_Model_find, ke_Model_remove, ke_Model_add, ke_Model_storeAt, ke_Model_open, ke_Model_change, ke_Model_append, ke_Model_write, ke_Model_read, ke_Model_length, ke_Model_erase, ke_Model_sync, ke_Model_squeeze, ke_Model_bind, ke_Model_live, ke_Model_put, ke_Model_get, ke_Model_copy, ke_Model_release, ke_Model_ask, ke_Model_state, ke_Model_pass, ke_Model_time, ke_Model_losses, ke_Model_transfers, ke_App_appendWord, ke_App_writeWord, ke_App_readWord, ke_App_lengthOf, ke_App_eraseFile, ke_App_storeAllChanged, ke_App_giveUpOldestFrame, ke_App_isFile, ke_App_makeRoomForWord, ke_App_changeWord, ke_App_openPartOf, ke_App_slotFor, ke_App_slotOf, ke_App_oldestSlot, ke_App_load, ke_App_storeIfChanged, ke_App_blockOf, ke_App_dropPart, ke_App_giveFrameBack, ke_Guest_hasAllTickets, ke_Guest_addTicket, ke_Guest_stateOf, ke_Guest_putWord, ke_Guest_getWord, ke_Guest_copyWords, ke_Guest_giveBack, ke_Guest_askFor, ke_Guest_askForLastOf, ke_Guest_earliestDeadline, ke_Guest_loseAllDue, ke_Guest_isLive, ke_Guest_isLiveOf, ke_Guest_poolOf, ke_Kernel_poolOf, ke_Kernel_guestOf, ke_Kernel_bindForGuest, ke_Kernel_bindForApplication, ke_Kernel_moveTimeTo, ke_Kernel_claim, ke_Kernel_askRicherGuest, ke_Kernel_earliestDeadline, ke_Pool_bindFreeOne, ke_Pool_endBinding, ke_Pool_countFree, ke_Pool_countHeldBy, ke_Pool_hasFullShare, ke_Pool_wordAt, ke_Pool_setWord, ke_Pool_takeWordsFrom, ke_Pool_hasResource, ke_Pool_hasWord, ke_Slot_isEmpty]
def kb_m0 : kb_m := (⟨"", "", ""⟩, ⟨#[]⟩, 0, none, 99, 0, false, 0, 0, [])
def kb_me (y : Nat) : kb_m := (kb_mt[y]?).getD kb_m0
def kb_nm (y : Nat) : MethodName := (kb_me y).1
def kb_by (y : Nat) : ByteArray := (kb_me y).2.1
def kb_mL (y : Nat) : Nat := (kb_me y).2.2.1
def kb_rt (y : Nat) : Option FieldType := (kb_me y).2.2.2.1
def kb_o (y : Nat) : Nat := (kb_me y).2.2.2.2.1
def kb_np (y : Nat) : Nat := (kb_me y).2.2.2.2.2.1
def kb_ss (y : Nat) : Bool := (kb_me y).2.2.2.2.2.2.1
def kb_fr (y : Nat) : Nat := (kb_me y).2.2.2.2.2.2.2.1
def kb_lo (y : Nat) : Nat := (kb_me y).2.2.2.2.2.2.2.2.1
def kb_ft (y pc : Nat) : Option Jvm.ClassFile.Instr := kb_lk (kb_me y).2.2.2.2.2.2.2.2.2 pc
def kb_mP (e : kb_m) : Prop := e.2.2.2.2.2.2.2.2.2.all (fun q => decide (decode e.2.1 q.1 = .ok (q.2, kb_len q.2))) = true ∧ e.1.cls = kb_cn e.2.2.2.2.1
def kb_vP (e : kb_m) : Prop := Cond.initialized e.1.cls ∈ kb_all ∧ Cond.code e.1 e.2.1 e.2.2.1 e.2.2.2.1 ∈ kb_all ∧ e.1.cls ≠ "java/lang/invoke/MethodHandle" ∧ e.1.cls ≠ "java/lang/invoke/VarHandle" ∧ (parseMethodDescriptor e.1.desc).map (fun d => d.parameters.length) = some e.2.2.2.2.2.1 ∧ plainName e.1.cls = true
def kb_iP (e : kb_m) : Prop := kb_vP e ∧ Cond.instanceMethod e.1 ∈ kb_all ∧ Cond.selects e.1.cls e.1 e.1 ∈ kb_all ∧ e.2.2.2.2.2.1 + 1 ≤ e.2.2.1 ∧ ∃ T n, kb_cl[e.2.2.2.2.1]? = some (e.1.cls, T, n)
def kb_sP (e : kb_m) : Prop := kb_vP e ∧ Cond.static e.1 ∈ kb_all ∧ e.2.2.2.2.2.1 ≤ e.2.2.1
set_option maxRecDepth 100000 in
theorem kd_BK_append : kb_mP ke_BK_append := ⟨by decide +kernel, rfl⟩
set_option maxRecDepth 100000 in
theorem kw_BK_append : kb_vP ke_BK_append := ⟨kb_all_in (List.mem_of_getElem? (i := 38) rfl) rfl, kb_all_in (List.mem_of_getElem? (i := 201) rfl) rfl, by decide +kernel, by decide +kernel, by decide +kernel, by decide +kernel⟩
set_option maxRecDepth 100000 in
theorem kj_BK_append : kb_iP ke_BK_append := ⟨kw_BK_append, kb_all_in (List.mem_of_getElem? (i := 199) rfl) rfl, kb_all_in (List.mem_of_getElem? (i := 200) rfl) rfl, by decide +kernel, _, _, rfl⟩
set_option maxRecDepth 100000 in
theorem kd_BK_write : kb_mP ke_BK_write := ⟨by decide +kernel, rfl⟩
set_option maxRecDepth 100000 in
theorem kw_BK_write : kb_vP ke_BK_write := ⟨kb_all_in (List.mem_of_getElem? (i := 38) rfl) rfl, kb_all_in (List.mem_of_getElem? (i := 341) rfl) rfl, by decide +kernel, by decide +kernel, by decide +kernel, by decide +kernel⟩
set_option maxRecDepth 100000 in
theorem kj_BK_write : kb_iP ke_BK_write := ⟨kw_BK_write, kb_all_in (List.mem_of_getElem? (i := 339) rfl) rfl, kb_all_in (List.mem_of_getElem? (i := 340) rfl) rfl, by decide +kernel, _, _, rfl⟩
set_option maxRecDepth 100000 in
theorem kd_BK_read : kb_mP ke_BK_read := ⟨by decide +kernel, rfl⟩
set_option maxRecDepth 100000 in
theorem kw_BK_read : kb_vP ke_BK_read := ⟨kb_all_in (List.mem_of_getElem? (i := 38) rfl) rfl, kb_all_in (List.mem_of_getElem? (i := 349) rfl) rfl, by decide +kernel, by decide +kernel, by decide +kernel, by decide +kernel⟩
set_option maxRecDepth 100000 in
theorem kj_BK_read : kb_iP ke_BK_read := ⟨kw_BK_read, kb_all_in (List.mem_of_getElem? (i := 347) rfl) rfl, kb_all_in (List.mem_of_getElem? (i := 348) rfl) rfl, by decide +kernel, _, _, rfl⟩
set_option maxRecDepth 100000 in
theorem kd_BK_length : kb_mP ke_BK_length := ⟨by decide +kernel, rfl⟩
set_option maxRecDepth 100000 in
theorem kw_BK_length : kb_vP ke_BK_length := ⟨kb_all_in (List.mem_of_getElem? (i := 38) rfl) rfl, kb_all_in (List.mem_of_getElem? (i := 361) rfl) rfl, by decide +kernel, by decide +kernel, by decide +kernel, by decide +kernel⟩
set_option maxRecDepth 100000 in
theorem kj_BK_length : kb_iP ke_BK_length := ⟨kw_BK_length, kb_all_in (List.mem_of_getElem? (i := 359) rfl) rfl, kb_all_in (List.mem_of_getElem? (i := 360) rfl) rfl, by decide +kernel, _, _, rfl⟩
set_option maxRecDepth 100000 in
theorem kd_BK_erase : kb_mP ke_BK_erase := ⟨by decide +kernel, rfl⟩
set_option maxRecDepth 100000 in
theorem kw_BK_erase : kb_vP ke_BK_erase := ⟨kb_all_in (List.mem_of_getElem? (i := 38) rfl) rfl, kb_all_in (List.mem_of_getElem? (i := 369) rfl) rfl, by decide +kernel, by decide +kernel, by decide +kernel, by decide +kernel⟩
set_option maxRecDepth 100000 in
theorem kj_BK_erase : kb_iP ke_BK_erase := ⟨kw_BK_erase, kb_all_in (List.mem_of_getElem? (i := 367) rfl) rfl, kb_all_in (List.mem_of_getElem? (i := 368) rfl) rfl, by decide +kernel, _, _, rfl⟩
set_option maxRecDepth 100000 in
theorem kd_BK_sync : kb_mP ke_BK_sync := ⟨by decide +kernel, rfl⟩
set_option maxRecDepth 100000 in
theorem kw_BK_sync : kb_vP ke_BK_sync := ⟨kb_all_in (List.mem_of_getElem? (i := 38) rfl) rfl, kb_all_in (List.mem_of_getElem? (i := 386) rfl) rfl, by decide +kernel, by decide +kernel, by decide +kernel, by decide +kernel⟩
set_option maxRecDepth 100000 in
theorem kj_BK_sync : kb_iP ke_BK_sync := ⟨kw_BK_sync, kb_all_in (List.mem_of_getElem? (i := 384) rfl) rfl, kb_all_in (List.mem_of_getElem? (i := 385) rfl) rfl, by decide +kernel, _, _, rfl⟩
set_option maxRecDepth 100000 in
theorem kd_BK_squeeze : kb_mP ke_BK_squeeze := ⟨by decide +kernel, rfl⟩
set_option maxRecDepth 100000 in
theorem kw_BK_squeeze : kb_vP ke_BK_squeeze := ⟨kb_all_in (List.mem_of_getElem? (i := 38) rfl) rfl, kb_all_in (List.mem_of_getElem? (i := 394) rfl) rfl, by decide +kernel, by decide +kernel, by decide +kernel, by decide +kernel⟩
set_option maxRecDepth 100000 in
theorem kj_BK_squeeze : kb_iP ke_BK_squeeze := ⟨kw_BK_squeeze, kb_all_in (List.mem_of_getElem? (i := 392) rfl) rfl, kb_all_in (List.mem_of_getElem? (i := 393) rfl) rfl, by decide +kernel, _, _, rfl⟩
set_option maxRecDepth 100000 in
theorem kd_BK_bind : kb_mP ke_BK_bind := ⟨by decide +kernel, rfl⟩
set_option maxRecDepth 100000 in
theorem kw_BK_bind : kb_vP ke_BK_bind := ⟨kb_all_in (List.mem_of_getElem? (i := 38) rfl) rfl, kb_all_in (List.mem_of_getElem? (i := 402) rfl) rfl, by decide +kernel, by decide +kernel, by decide +kernel, by decide +kernel⟩
set_option maxRecDepth 100000 in
theorem kj_BK_bind : kb_iP ke_BK_bind := ⟨kw_BK_bind, kb_all_in (List.mem_of_getElem? (i := 400) rfl) rfl, kb_all_in (List.mem_of_getElem? (i := 401) rfl) rfl, by decide +kernel, _, _, rfl⟩
set_option maxRecDepth 100000 in
theorem kd_BK_put : kb_mP ke_BK_put := ⟨by decide +kernel, rfl⟩
set_option maxRecDepth 100000 in
theorem kw_BK_put : kb_vP ke_BK_put := ⟨kb_all_in (List.mem_of_getElem? (i := 38) rfl) rfl, kb_all_in (List.mem_of_getElem? (i := 423) rfl) rfl, by decide +kernel, by decide +kernel, by decide +kernel, by decide +kernel⟩
set_option maxRecDepth 100000 in
theorem kj_BK_put : kb_iP ke_BK_put := ⟨kw_BK_put, kb_all_in (List.mem_of_getElem? (i := 421) rfl) rfl, kb_all_in (List.mem_of_getElem? (i := 422) rfl) rfl, by decide +kernel, _, _, rfl⟩
set_option maxRecDepth 100000 in
theorem kd_BK_get : kb_mP ke_BK_get := ⟨by decide +kernel, rfl⟩
set_option maxRecDepth 100000 in
theorem kw_BK_get : kb_vP ke_BK_get := ⟨kb_all_in (List.mem_of_getElem? (i := 38) rfl) rfl, kb_all_in (List.mem_of_getElem? (i := 445) rfl) rfl, by decide +kernel, by decide +kernel, by decide +kernel, by decide +kernel⟩
set_option maxRecDepth 100000 in
theorem kj_BK_get : kb_iP ke_BK_get := ⟨kw_BK_get, kb_all_in (List.mem_of_getElem? (i := 443) rfl) rfl, kb_all_in (List.mem_of_getElem? (i := 444) rfl) rfl, by decide +kernel, _, _, rfl⟩
set_option maxRecDepth 100000 in
theorem kd_BK_copy : kb_mP ke_BK_copy := ⟨by decide +kernel, rfl⟩
set_option maxRecDepth 100000 in
theorem kw_BK_copy : kb_vP ke_BK_copy := ⟨kb_all_in (List.mem_of_getElem? (i := 38) rfl) rfl, kb_all_in (List.mem_of_getElem? (i := 454) rfl) rfl, by decide +kernel, by decide +kernel, by decide +kernel, by decide +kernel⟩
set_option maxRecDepth 100000 in
theorem kj_BK_copy : kb_iP ke_BK_copy := ⟨kw_BK_copy, kb_all_in (List.mem_of_getElem? (i := 452) rfl) rfl, kb_all_in (List.mem_of_getElem? (i := 453) rfl) rfl, by decide +kernel, _, _, rfl⟩
set_option maxRecDepth 100000 in
theorem kd_BK_release : kb_mP ke_BK_release := ⟨by decide +kernel, rfl⟩
set_option maxRecDepth 100000 in
theorem kw_BK_release : kb_vP ke_BK_release := ⟨kb_all_in (List.mem_of_getElem? (i := 38) rfl) rfl, kb_all_in (List.mem_of_getElem? (i := 463) rfl) rfl, by decide +kernel, by decide +kernel, by decide +kernel, by decide +kernel⟩
set_option maxRecDepth 100000 in
theorem kj_BK_release : kb_iP ke_BK_release := ⟨kw_BK_release, kb_all_in (List.mem_of_getElem? (i := 461) rfl) rfl, kb_all_in (List.mem_of_getElem? (i := 462) rfl) rfl, by decide +kernel, _, _, rfl⟩
set_option maxRecDepth 100000 in
theorem kd_BK_ask : kb_mP ke_BK_ask := ⟨by decide +kernel, rfl⟩
set_option maxRecDepth 100000 in
theorem kw_BK_ask : kb_vP ke_BK_ask := ⟨kb_all_in (List.mem_of_getElem? (i := 38) rfl) rfl, kb_all_in (List.mem_of_getElem? (i := 471) rfl) rfl, by decide +kernel, by decide +kernel, by decide +kernel, by decide +kernel⟩
set_option maxRecDepth 100000 in
theorem kj_BK_ask : kb_iP ke_BK_ask := ⟨kw_BK_ask, kb_all_in (List.mem_of_getElem? (i := 469) rfl) rfl, kb_all_in (List.mem_of_getElem? (i := 470) rfl) rfl, by decide +kernel, _, _, rfl⟩
set_option maxRecDepth 100000 in
theorem kd_BK_state : kb_mP ke_BK_state := ⟨by decide +kernel, rfl⟩
set_option maxRecDepth 100000 in
theorem kw_BK_state : kb_vP ke_BK_state := ⟨kb_all_in (List.mem_of_getElem? (i := 38) rfl) rfl, kb_all_in (List.mem_of_getElem? (i := 479) rfl) rfl, by decide +kernel, by decide +kernel, by decide +kernel, by decide +kernel⟩
set_option maxRecDepth 100000 in
theorem kj_BK_state : kb_iP ke_BK_state := ⟨kw_BK_state, kb_all_in (List.mem_of_getElem? (i := 477) rfl) rfl, kb_all_in (List.mem_of_getElem? (i := 478) rfl) rfl, by decide +kernel, _, _, rfl⟩
set_option maxRecDepth 100000 in
theorem kd_BK_pass : kb_mP ke_BK_pass := ⟨by decide +kernel, rfl⟩
set_option maxRecDepth 100000 in
theorem kw_BK_pass : kb_vP ke_BK_pass := ⟨kb_all_in (List.mem_of_getElem? (i := 38) rfl) rfl, kb_all_in (List.mem_of_getElem? (i := 484) rfl) rfl, by decide +kernel, by decide +kernel, by decide +kernel, by decide +kernel⟩
set_option maxRecDepth 100000 in
theorem kj_BK_pass : kb_iP ke_BK_pass := ⟨kw_BK_pass, kb_all_in (List.mem_of_getElem? (i := 482) rfl) rfl, kb_all_in (List.mem_of_getElem? (i := 483) rfl) rfl, by decide +kernel, _, _, rfl⟩
set_option maxRecDepth 100000 in
theorem kd_BK_time : kb_mP ke_BK_time := ⟨by decide +kernel, rfl⟩
set_option maxRecDepth 100000 in
theorem kw_BK_time : kb_vP ke_BK_time := ⟨kb_all_in (List.mem_of_getElem? (i := 38) rfl) rfl, kb_all_in (List.mem_of_getElem? (i := 489) rfl) rfl, by decide +kernel, by decide +kernel, by decide +kernel, by decide +kernel⟩
set_option maxRecDepth 100000 in
theorem kj_BK_time : kb_iP ke_BK_time := ⟨kw_BK_time, kb_all_in (List.mem_of_getElem? (i := 487) rfl) rfl, kb_all_in (List.mem_of_getElem? (i := 488) rfl) rfl, by decide +kernel, _, _, rfl⟩
set_option maxRecDepth 100000 in
theorem kd_BK_free : kb_mP ke_BK_free := ⟨by decide +kernel, rfl⟩
set_option maxRecDepth 100000 in
theorem kw_BK_free : kb_vP ke_BK_free := ⟨kb_all_in (List.mem_of_getElem? (i := 38) rfl) rfl, kb_all_in (List.mem_of_getElem? (i := 493) rfl) rfl, by decide +kernel, by decide +kernel, by decide +kernel, by decide +kernel⟩
set_option maxRecDepth 100000 in
theorem kj_BK_free : kb_iP ke_BK_free := ⟨kw_BK_free, kb_all_in (List.mem_of_getElem? (i := 491) rfl) rfl, kb_all_in (List.mem_of_getElem? (i := 492) rfl) rfl, by decide +kernel, _, _, rfl⟩
set_option maxRecDepth 100000 in
theorem kd_BK_held : kb_mP ke_BK_held := ⟨by decide +kernel, rfl⟩
set_option maxRecDepth 100000 in
theorem kw_BK_held : kb_vP ke_BK_held := ⟨kb_all_in (List.mem_of_getElem? (i := 38) rfl) rfl, kb_all_in (List.mem_of_getElem? (i := 502) rfl) rfl, by decide +kernel, by decide +kernel, by decide +kernel, by decide +kernel⟩
set_option maxRecDepth 100000 in
theorem kj_BK_held : kb_iP ke_BK_held := ⟨kw_BK_held, kb_all_in (List.mem_of_getElem? (i := 500) rfl) rfl, kb_all_in (List.mem_of_getElem? (i := 501) rfl) rfl, by decide +kernel, _, _, rfl⟩
set_option maxRecDepth 100000 in
theorem kd_BK_losses : kb_mP ke_BK_losses := ⟨by decide +kernel, rfl⟩
set_option maxRecDepth 100000 in
theorem kw_BK_losses : kb_vP ke_BK_losses := ⟨kb_all_in (List.mem_of_getElem? (i := 38) rfl) rfl, kb_all_in (List.mem_of_getElem? (i := 510) rfl) rfl, by decide +kernel, by decide +kernel, by decide +kernel, by decide +kernel⟩
set_option maxRecDepth 100000 in
theorem kj_BK_losses : kb_iP ke_BK_losses := ⟨kw_BK_losses, kb_all_in (List.mem_of_getElem? (i := 508) rfl) rfl, kb_all_in (List.mem_of_getElem? (i := 509) rfl) rfl, by decide +kernel, _, _, rfl⟩
set_option maxRecDepth 100000 in
theorem kd_BK_transfers : kb_mP ke_BK_transfers := ⟨by decide +kernel, rfl⟩
set_option maxRecDepth 100000 in
theorem kw_BK_transfers : kb_vP ke_BK_transfers := ⟨kb_all_in (List.mem_of_getElem? (i := 38) rfl) rfl, kb_all_in (List.mem_of_getElem? (i := 514) rfl) rfl, by decide +kernel, by decide +kernel, by decide +kernel, by decide +kernel⟩
set_option maxRecDepth 100000 in
theorem kj_BK_transfers : kb_iP ke_BK_transfers := ⟨kw_BK_transfers, kb_all_in (List.mem_of_getElem? (i := 512) rfl) rfl, kb_all_in (List.mem_of_getElem? (i := 513) rfl) rfl, by decide +kernel, _, _, rfl⟩
set_option maxRecDepth 100000 in
theorem kd_BK_applicationOf : kb_mP ke_BK_applicationOf := ⟨by decide +kernel, rfl⟩
set_option maxRecDepth 100000 in
theorem kw_BK_applicationOf : kb_vP ke_BK_applicationOf := ⟨kb_all_in (List.mem_of_getElem? (i := 38) rfl) rfl, kb_all_in (List.mem_of_getElem? (i := 205) rfl) rfl, by decide +kernel, by decide +kernel, by decide +kernel, by decide +kernel⟩
set_option maxRecDepth 100000 in
theorem kj_BK_applicationOf : kb_iP ke_BK_applicationOf := ⟨kw_BK_applicationOf, kb_all_in (List.mem_of_getElem? (i := 204) rfl) rfl, kb_all_in (List.mem_of_getElem? (i := 0) rfl) rfl, by decide +kernel, _, _, rfl⟩
set_option maxRecDepth 100000 in
theorem kd_BK_isEnvironment : kb_mP ke_BK_isEnvironment := ⟨by decide +kernel, rfl⟩
set_option maxRecDepth 100000 in
theorem kw_BK_isEnvironment : kb_vP ke_BK_isEnvironment := ⟨kb_all_in (List.mem_of_getElem? (i := 38) rfl) rfl, kb_all_in (List.mem_of_getElem? (i := 505) rfl) rfl, by decide +kernel, by decide +kernel, by decide +kernel, by decide +kernel⟩
set_option maxRecDepth 100000 in
theorem kj_BK_isEnvironment : kb_sP ke_BK_isEnvironment := ⟨kw_BK_isEnvironment, kb_all_in (List.mem_of_getElem? (i := 504) rfl) rfl, by decide +kernel⟩
set_option maxRecDepth 100000 in
theorem kd_Model_within : kb_mP ke_Model_within := ⟨by decide +kernel, rfl⟩
set_option maxRecDepth 100000 in
theorem kw_Model_within : kb_vP ke_Model_within := ⟨kb_all_in (List.mem_of_getElem? (i := 45) rfl) rfl, kb_all_in (List.mem_of_getElem? (i := 586) rfl) rfl, by decide +kernel, by decide +kernel, by decide +kernel, by decide +kernel⟩
set_option maxRecDepth 100000 in
theorem kj_Model_within : kb_sP ke_Model_within := ⟨kw_Model_within, kb_all_in (List.mem_of_getElem? (i := 585) rfl) rfl, by decide +kernel⟩
set_option maxRecDepth 100000 in
theorem kd_Model_blocksOf : kb_mP ke_Model_blocksOf := ⟨by decide +kernel, rfl⟩
set_option maxRecDepth 100000 in
theorem kw_Model_blocksOf : kb_vP ke_Model_blocksOf := ⟨kb_all_in (List.mem_of_getElem? (i := 45) rfl) rfl, kb_all_in (List.mem_of_getElem? (i := 579) rfl) rfl, by decide +kernel, by decide +kernel, by decide +kernel, by decide +kernel⟩
set_option maxRecDepth 100000 in
theorem kj_Model_blocksOf : kb_iP ke_Model_blocksOf := ⟨kw_Model_blocksOf, kb_all_in (List.mem_of_getElem? (i := 578) rfl) rfl, kb_all_in (List.mem_of_getElem? (i := 22) rfl) rfl, by decide +kernel, _, _, rfl⟩
set_option maxRecDepth 100000 in
theorem kd_Model_liveOf : kb_mP ke_Model_liveOf := ⟨by decide +kernel, rfl⟩
set_option maxRecDepth 100000 in
theorem kw_Model_liveOf : kb_vP ke_Model_liveOf := ⟨kb_all_in (List.mem_of_getElem? (i := 45) rfl) rfl, kb_all_in (List.mem_of_getElem? (i := 575) rfl) rfl, by decide +kernel, by decide +kernel, by decide +kernel, by decide +kernel⟩
set_option maxRecDepth 100000 in
theorem kj_Model_liveOf : kb_iP ke_Model_liveOf := ⟨kw_Model_liveOf, kb_all_in (List.mem_of_getElem? (i := 574) rfl) rfl, kb_all_in (List.mem_of_getElem? (i := 21) rfl) rfl, by decide +kernel, _, _, rfl⟩
set_option maxRecDepth 100000 in
theorem kd_Model_count : kb_mP ke_Model_count := ⟨by decide +kernel, rfl⟩
set_option maxRecDepth 100000 in
theorem kw_Model_count : kb_vP ke_Model_count := ⟨kb_all_in (List.mem_of_getElem? (i := 45) rfl) rfl, kb_all_in (List.mem_of_getElem? (i := 571) rfl) rfl, by decide +kernel, by decide +kernel, by decide +kernel, by decide +kernel⟩
set_option maxRecDepth 100000 in
theorem kj_Model_count : kb_iP ke_Model_count := ⟨kw_Model_count, kb_all_in (List.mem_of_getElem? (i := 570) rfl) rfl, kb_all_in (List.mem_of_getElem? (i := 20) rfl) rfl, by decide +kernel, _, _, rfl⟩
set_option maxRecDepth 100000 in
theorem kd_Model_free : kb_mP ke_Model_free := ⟨by decide +kernel, rfl⟩
set_option maxRecDepth 100000 in
theorem kw_Model_free : kb_vP ke_Model_free := ⟨kb_all_in (List.mem_of_getElem? (i := 45) rfl) rfl, kb_all_in (List.mem_of_getElem? (i := 567) rfl) rfl, by decide +kernel, by decide +kernel, by decide +kernel, by decide +kernel⟩
set_option maxRecDepth 100000 in
theorem kj_Model_free : kb_iP ke_Model_free := ⟨kw_Model_free, kb_all_in (List.mem_of_getElem? (i := 565) rfl) rfl, kb_all_in (List.mem_of_getElem? (i := 566) rfl) rfl, by decide +kernel, _, _, rfl⟩
set_option maxRecDepth 100000 in
theorem kd_Model_held : kb_mP ke_Model_held := ⟨by decide +kernel, rfl⟩
set_option maxRecDepth 100000 in
theorem kw_Model_held : kb_vP ke_Model_held := ⟨kb_all_in (List.mem_of_getElem? (i := 45) rfl) rfl, kb_all_in (List.mem_of_getElem? (i := 583) rfl) rfl, by decide +kernel, by decide +kernel, by decide +kernel, by decide +kernel⟩
set_option maxRecDepth 100000 in
theorem kj_Model_held : kb_iP ke_Model_held := ⟨kw_Model_held, kb_all_in (List.mem_of_getElem? (i := 581) rfl) rfl, kb_all_in (List.mem_of_getElem? (i := 582) rfl) rfl, by decide +kernel, _, _, rfl⟩
set_option maxRecDepth 100000 in
theorem kd_Model_moveTo : kb_mP ke_Model_moveTo := ⟨by decide +kernel, rfl⟩
set_option maxRecDepth 100000 in
theorem kw_Model_moveTo : kb_vP ke_Model_moveTo := ⟨kb_all_in (List.mem_of_getElem? (i := 45) rfl) rfl, kb_all_in (List.mem_of_getElem? (i := 615) rfl) rfl, by decide +kernel, by decide +kernel, by decide +kernel, by decide +kernel⟩
set_option maxRecDepth 100000 in
theorem kj_Model_moveTo : kb_iP ke_Model_moveTo := ⟨kw_Model_moveTo, kb_all_in (List.mem_of_getElem? (i := 614) rfl) rfl, kb_all_in (List.mem_of_getElem? (i := 28) rfl) rfl, by decide +kernel, _, _, rfl⟩
set_option maxRecDepth 100000 in
theorem kd_Model_earliest : kb_mP ke_Model_earliest := ⟨by decide +kernel, rfl⟩
set_option maxRecDepth 100000 in
theorem kw_Model_earliest : kb_vP ke_Model_earliest := ⟨kb_all_in (List.mem_of_getElem? (i := 45) rfl) rfl, kb_all_in (List.mem_of_getElem? (i := 607) rfl) rfl, by decide +kernel, by decide +kernel, by decide +kernel, by decide +kernel⟩
set_option maxRecDepth 100000 in
theorem kj_Model_earliest : kb_iP ke_Model_earliest := ⟨kw_Model_earliest, kb_all_in (List.mem_of_getElem? (i := 606) rfl) rfl, kb_all_in (List.mem_of_getElem? (i := 26) rfl) rfl, by decide +kernel, _, _, rfl⟩
set_option maxRecDepth 100000 in
theorem kd_Model_mark : kb_mP ke_Model_mark := ⟨by decide +kernel, rfl⟩
set_option maxRecDepth 100000 in
theorem kw_Model_mark : kb_vP ke_Model_mark := ⟨kb_all_in (List.mem_of_getElem? (i := 45) rfl) rfl, kb_all_in (List.mem_of_getElem? (i := 611) rfl) rfl, by decide +kernel, by decide +kernel, by decide +kernel, by decide +kernel⟩
set_option maxRecDepth 100000 in
theorem kj_Model_mark : kb_iP ke_Model_mark := ⟨kw_Model_mark, kb_all_in (List.mem_of_getElem? (i := 610) rfl) rfl, kb_all_in (List.mem_of_getElem? (i := 27) rfl) rfl, by decide +kernel, _, _, rfl⟩
set_option maxRecDepth 100000 in
theorem kd_Model_wish : kb_mP ke_Model_wish := ⟨by decide +kernel, rfl⟩
set_option maxRecDepth 100000 in
theorem kw_Model_wish : kb_vP ke_Model_wish := ⟨kb_all_in (List.mem_of_getElem? (i := 45) rfl) rfl, kb_all_in (List.mem_of_getElem? (i := 603) rfl) rfl, by decide +kernel, by decide +kernel, by decide +kernel, by decide +kernel⟩
set_option maxRecDepth 100000 in
theorem kj_Model_wish : kb_iP ke_Model_wish := ⟨kw_Model_wish, kb_all_in (List.mem_of_getElem? (i := 602) rfl) rfl, kb_all_in (List.mem_of_getElem? (i := 25) rfl) rfl, by decide +kernel, _, _, rfl⟩
set_option maxRecDepth 100000 in
theorem kd_Model_claim : kb_mP ke_Model_claim := ⟨by decide +kernel, rfl⟩
set_option maxRecDepth 100000 in
theorem kw_Model_claim : kb_vP ke_Model_claim := ⟨kb_all_in (List.mem_of_getElem? (i := 45) rfl) rfl, kb_all_in (List.mem_of_getElem? (i := 598) rfl) rfl, by decide +kernel, by decide +kernel, by decide +kernel, by decide +kernel⟩
set_option maxRecDepth 100000 in
theorem kj_Model_claim : kb_iP ke_Model_claim := ⟨kw_Model_claim, kb_all_in (List.mem_of_getElem? (i := 597) rfl) rfl, kb_all_in (List.mem_of_getElem? (i := 24) rfl) rfl, by decide +kernel, _, _, rfl⟩
set_option maxRecDepth 100000 in
theorem kd_Model_noFile : kb_mP ke_Model_noFile := ⟨by decide +kernel, rfl⟩
set_option maxRecDepth 100000 in
theorem kw_Model_noFile : kb_vP ke_Model_noFile := ⟨kb_all_in (List.mem_of_getElem? (i := 45) rfl) rfl, kb_all_in (List.mem_of_getElem? (i := 594) rfl) rfl, by decide +kernel, by decide +kernel, by decide +kernel, by decide +kernel⟩
set_option maxRecDepth 100000 in
theorem kj_Model_noFile : kb_iP ke_Model_noFile := ⟨kw_Model_noFile, kb_all_in (List.mem_of_getElem? (i := 593) rfl) rfl, kb_all_in (List.mem_of_getElem? (i := 23) rfl) rfl, by decide +kernel, _, _, rfl⟩
set_option maxRecDepth 100000 in
theorem kd_Model_noWord : kb_mP ke_Model_noWord := ⟨by decide +kernel, rfl⟩
set_option maxRecDepth 100000 in
theorem kw_Model_noWord : kb_vP ke_Model_noWord := ⟨kb_all_in (List.mem_of_getElem? (i := 45) rfl) rfl, kb_all_in (List.mem_of_getElem? (i := 647) rfl) rfl, by decide +kernel, by decide +kernel, by decide +kernel, by decide +kernel⟩
set_option maxRecDepth 100000 in
theorem kj_Model_noWord : kb_iP ke_Model_noWord := ⟨kw_Model_noWord, kb_all_in (List.mem_of_getElem? (i := 646) rfl) rfl, kb_all_in (List.mem_of_getElem? (i := 35) rfl) rfl, by decide +kernel, _, _, rfl⟩
set_option maxRecDepth 100000 in
theorem kd_Model_find : kb_mP ke_Model_find := ⟨by decide +kernel, rfl⟩
set_option maxRecDepth 100000 in
theorem kw_Model_find : kb_vP ke_Model_find := ⟨kb_all_in (List.mem_of_getElem? (i := 45) rfl) rfl, kb_all_in (List.mem_of_getElem? (i := 627) rfl) rfl, by decide +kernel, by decide +kernel, by decide +kernel, by decide +kernel⟩
set_option maxRecDepth 100000 in
theorem kj_Model_find : kb_iP ke_Model_find := ⟨kw_Model_find, kb_all_in (List.mem_of_getElem? (i := 626) rfl) rfl, kb_all_in (List.mem_of_getElem? (i := 31) rfl) rfl, by decide +kernel, _, _, rfl⟩
set_option maxRecDepth 100000 in
theorem kd_Model_remove : kb_mP ke_Model_remove := ⟨by decide +kernel, rfl⟩
set_option maxRecDepth 100000 in
theorem kw_Model_remove : kb_vP ke_Model_remove := ⟨kb_all_in (List.mem_of_getElem? (i := 45) rfl) rfl, kb_all_in (List.mem_of_getElem? (i := 631) rfl) rfl, by decide +kernel, by decide +kernel, by decide +kernel, by decide +kernel⟩
set_option maxRecDepth 100000 in
theorem kj_Model_remove : kb_iP ke_Model_remove := ⟨kw_Model_remove, kb_all_in (List.mem_of_getElem? (i := 630) rfl) rfl, kb_all_in (List.mem_of_getElem? (i := 32) rfl) rfl, by decide +kernel, _, _, rfl⟩
set_option maxRecDepth 100000 in
theorem kd_Model_add : kb_mP ke_Model_add := ⟨by decide +kernel, rfl⟩
set_option maxRecDepth 100000 in
theorem kw_Model_add : kb_vP ke_Model_add := ⟨kb_all_in (List.mem_of_getElem? (i := 45) rfl) rfl, kb_all_in (List.mem_of_getElem? (i := 635) rfl) rfl, by decide +kernel, by decide +kernel, by decide +kernel, by decide +kernel⟩
set_option maxRecDepth 100000 in
theorem kj_Model_add : kb_iP ke_Model_add := ⟨kw_Model_add, kb_all_in (List.mem_of_getElem? (i := 634) rfl) rfl, kb_all_in (List.mem_of_getElem? (i := 33) rfl) rfl, by decide +kernel, _, _, rfl⟩
set_option maxRecDepth 100000 in
theorem kd_Model_storeAt : kb_mP ke_Model_storeAt := ⟨by decide +kernel, rfl⟩
set_option maxRecDepth 100000 in
theorem kw_Model_storeAt : kb_vP ke_Model_storeAt := ⟨kb_all_in (List.mem_of_getElem? (i := 45) rfl) rfl, kb_all_in (List.mem_of_getElem? (i := 639) rfl) rfl, by decide +kernel, by decide +kernel, by decide +kernel, by decide +kernel⟩
set_option maxRecDepth 100000 in
theorem kj_Model_storeAt : kb_iP ke_Model_storeAt := ⟨kw_Model_storeAt, kb_all_in (List.mem_of_getElem? (i := 638) rfl) rfl, kb_all_in (List.mem_of_getElem? (i := 34) rfl) rfl, by decide +kernel, _, _, rfl⟩
set_option maxRecDepth 100000 in
theorem kd_Model_open : kb_mP ke_Model_open := ⟨by decide +kernel, rfl⟩
set_option maxRecDepth 100000 in
theorem kw_Model_open : kb_vP ke_Model_open := ⟨kb_all_in (List.mem_of_getElem? (i := 45) rfl) rfl, kb_all_in (List.mem_of_getElem? (i := 623) rfl) rfl, by decide +kernel, by decide +kernel, by decide +kernel, by decide +kernel⟩
set_option maxRecDepth 100000 in
theorem kj_Model_open : kb_iP ke_Model_open := ⟨kw_Model_open, kb_all_in (List.mem_of_getElem? (i := 622) rfl) rfl, kb_all_in (List.mem_of_getElem? (i := 30) rfl) rfl, by decide +kernel, _, _, rfl⟩
set_option maxRecDepth 100000 in
theorem kd_Model_change : kb_mP ke_Model_change := ⟨by decide +kernel, rfl⟩
set_option maxRecDepth 100000 in
theorem kw_Model_change : kb_vP ke_Model_change := ⟨kb_all_in (List.mem_of_getElem? (i := 45) rfl) rfl, kb_all_in (List.mem_of_getElem? (i := 619) rfl) rfl, by decide +kernel, by decide +kernel, by decide +kernel, by decide +kernel⟩
set_option maxRecDepth 100000 in
theorem kj_Model_change : kb_iP ke_Model_change := ⟨kw_Model_change, kb_all_in (List.mem_of_getElem? (i := 618) rfl) rfl, kb_all_in (List.mem_of_getElem? (i := 29) rfl) rfl, by decide +kernel, _, _, rfl⟩
set_option maxRecDepth 100000 in
theorem kd_Model_append : kb_mP ke_Model_append := ⟨by decide +kernel, rfl⟩
set_option maxRecDepth 100000 in
theorem kw_Model_append : kb_vP ke_Model_append := ⟨kb_all_in (List.mem_of_getElem? (i := 45) rfl) rfl, kb_all_in (List.mem_of_getElem? (i := 590) rfl) rfl, by decide +kernel, by decide +kernel, by decide +kernel, by decide +kernel⟩
set_option maxRecDepth 100000 in
theorem kj_Model_append : kb_iP ke_Model_append := ⟨kw_Model_append, kb_all_in (List.mem_of_getElem? (i := 588) rfl) rfl, kb_all_in (List.mem_of_getElem? (i := 589) rfl) rfl, by decide +kernel, _, _, rfl⟩
set_option maxRecDepth 100000 in
theorem kd_Model_write : kb_mP ke_Model_write := ⟨by decide +kernel, rfl⟩
set_option maxRecDepth 100000 in
theorem kw_Model_write : kb_vP ke_Model_write := ⟨kb_all_in (List.mem_of_getElem? (i := 45) rfl) rfl, kb_all_in (List.mem_of_getElem? (i := 643) rfl) rfl, by decide +kernel, by decide +kernel, by decide +kernel, by decide +kernel⟩
set_option maxRecDepth 100000 in
theorem kj_Model_write : kb_iP ke_Model_write := ⟨kw_Model_write, kb_all_in (List.mem_of_getElem? (i := 641) rfl) rfl, kb_all_in (List.mem_of_getElem? (i := 642) rfl) rfl, by decide +kernel, _, _, rfl⟩
set_option maxRecDepth 100000 in
theorem kd_Model_read : kb_mP ke_Model_read := ⟨by decide +kernel, rfl⟩
set_option maxRecDepth 100000 in
theorem kw_Model_read : kb_vP ke_Model_read := ⟨kb_all_in (List.mem_of_getElem? (i := 45) rfl) rfl, kb_all_in (List.mem_of_getElem? (i := 651) rfl) rfl, by decide +kernel, by decide +kernel, by decide +kernel, by decide +kernel⟩
set_option maxRecDepth 100000 in
theorem kj_Model_read : kb_iP ke_Model_read := ⟨kw_Model_read, kb_all_in (List.mem_of_getElem? (i := 649) rfl) rfl, kb_all_in (List.mem_of_getElem? (i := 650) rfl) rfl, by decide +kernel, _, _, rfl⟩
set_option maxRecDepth 100000 in
theorem kd_Model_length : kb_mP ke_Model_length := ⟨by decide +kernel, rfl⟩
set_option maxRecDepth 100000 in
theorem kw_Model_length : kb_vP ke_Model_length := ⟨kb_all_in (List.mem_of_getElem? (i := 45) rfl) rfl, kb_all_in (List.mem_of_getElem? (i := 655) rfl) rfl, by decide +kernel, by decide +kernel, by decide +kernel, by decide +kernel⟩
set_option maxRecDepth 100000 in
theorem kj_Model_length : kb_iP ke_Model_length := ⟨kw_Model_length, kb_all_in (List.mem_of_getElem? (i := 653) rfl) rfl, kb_all_in (List.mem_of_getElem? (i := 654) rfl) rfl, by decide +kernel, _, _, rfl⟩
set_option maxRecDepth 100000 in
theorem kd_Model_erase : kb_mP ke_Model_erase := ⟨by decide +kernel, rfl⟩
set_option maxRecDepth 100000 in
theorem kw_Model_erase : kb_vP ke_Model_erase := ⟨kb_all_in (List.mem_of_getElem? (i := 45) rfl) rfl, kb_all_in (List.mem_of_getElem? (i := 659) rfl) rfl, by decide +kernel, by decide +kernel, by decide +kernel, by decide +kernel⟩
set_option maxRecDepth 100000 in
theorem kj_Model_erase : kb_iP ke_Model_erase := ⟨kw_Model_erase, kb_all_in (List.mem_of_getElem? (i := 657) rfl) rfl, kb_all_in (List.mem_of_getElem? (i := 658) rfl) rfl, by decide +kernel, _, _, rfl⟩
set_option maxRecDepth 100000 in
theorem kd_Model_sync : kb_mP ke_Model_sync := ⟨by decide +kernel, rfl⟩
set_option maxRecDepth 100000 in
theorem kw_Model_sync : kb_vP ke_Model_sync := ⟨kb_all_in (List.mem_of_getElem? (i := 45) rfl) rfl, kb_all_in (List.mem_of_getElem? (i := 663) rfl) rfl, by decide +kernel, by decide +kernel, by decide +kernel, by decide +kernel⟩
set_option maxRecDepth 100000 in
theorem kj_Model_sync : kb_iP ke_Model_sync := ⟨kw_Model_sync, kb_all_in (List.mem_of_getElem? (i := 661) rfl) rfl, kb_all_in (List.mem_of_getElem? (i := 662) rfl) rfl, by decide +kernel, _, _, rfl⟩
set_option maxRecDepth 100000 in
theorem kd_Model_squeeze : kb_mP ke_Model_squeeze := ⟨by decide +kernel, rfl⟩
set_option maxRecDepth 100000 in
theorem kw_Model_squeeze : kb_vP ke_Model_squeeze := ⟨kb_all_in (List.mem_of_getElem? (i := 45) rfl) rfl, kb_all_in (List.mem_of_getElem? (i := 667) rfl) rfl, by decide +kernel, by decide +kernel, by decide +kernel, by decide +kernel⟩
set_option maxRecDepth 100000 in
theorem kj_Model_squeeze : kb_iP ke_Model_squeeze := ⟨kw_Model_squeeze, kb_all_in (List.mem_of_getElem? (i := 665) rfl) rfl, kb_all_in (List.mem_of_getElem? (i := 666) rfl) rfl, by decide +kernel, _, _, rfl⟩
set_option maxRecDepth 100000 in
theorem kd_Model_bind : kb_mP ke_Model_bind := ⟨by decide +kernel, rfl⟩
set_option maxRecDepth 100000 in
theorem kw_Model_bind : kb_vP ke_Model_bind := ⟨kb_all_in (List.mem_of_getElem? (i := 45) rfl) rfl, kb_all_in (List.mem_of_getElem? (i := 671) rfl) rfl, by decide +kernel, by decide +kernel, by decide +kernel, by decide +kernel⟩
set_option maxRecDepth 100000 in
theorem kj_Model_bind : kb_iP ke_Model_bind := ⟨kw_Model_bind, kb_all_in (List.mem_of_getElem? (i := 669) rfl) rfl, kb_all_in (List.mem_of_getElem? (i := 670) rfl) rfl, by decide +kernel, _, _, rfl⟩
set_option maxRecDepth 100000 in
theorem kd_Model_live : kb_mP ke_Model_live := ⟨by decide +kernel, rfl⟩
set_option maxRecDepth 100000 in
theorem kw_Model_live : kb_vP ke_Model_live := ⟨kb_all_in (List.mem_of_getElem? (i := 45) rfl) rfl, kb_all_in (List.mem_of_getElem? (i := 679) rfl) rfl, by decide +kernel, by decide +kernel, by decide +kernel, by decide +kernel⟩
set_option maxRecDepth 100000 in
theorem kj_Model_live : kb_iP ke_Model_live := ⟨kw_Model_live, kb_all_in (List.mem_of_getElem? (i := 678) rfl) rfl, kb_all_in (List.mem_of_getElem? (i := 36) rfl) rfl, by decide +kernel, _, _, rfl⟩
set_option maxRecDepth 100000 in
theorem kd_Model_put : kb_mP ke_Model_put := ⟨by decide +kernel, rfl⟩
set_option maxRecDepth 100000 in
theorem kw_Model_put : kb_vP ke_Model_put := ⟨kb_all_in (List.mem_of_getElem? (i := 45) rfl) rfl, kb_all_in (List.mem_of_getElem? (i := 675) rfl) rfl, by decide +kernel, by decide +kernel, by decide +kernel, by decide +kernel⟩
set_option maxRecDepth 100000 in
theorem kj_Model_put : kb_iP ke_Model_put := ⟨kw_Model_put, kb_all_in (List.mem_of_getElem? (i := 673) rfl) rfl, kb_all_in (List.mem_of_getElem? (i := 674) rfl) rfl, by decide +kernel, _, _, rfl⟩
set_option maxRecDepth 100000 in
theorem kd_Model_get : kb_mP ke_Model_get := ⟨by decide +kernel, rfl⟩
set_option maxRecDepth 100000 in
theorem kw_Model_get : kb_vP ke_Model_get := ⟨kb_all_in (List.mem_of_getElem? (i := 45) rfl) rfl, kb_all_in (List.mem_of_getElem? (i := 683) rfl) rfl, by decide +kernel, by decide +kernel, by decide +kernel, by decide +kernel⟩
set_option maxRecDepth 100000 in
theorem kj_Model_get : kb_iP ke_Model_get := ⟨kw_Model_get, kb_all_in (List.mem_of_getElem? (i := 681) rfl) rfl, kb_all_in (List.mem_of_getElem? (i := 682) rfl) rfl, by decide +kernel, _, _, rfl⟩
set_option maxRecDepth 100000 in
theorem kd_Model_copy : kb_mP ke_Model_copy := ⟨by decide +kernel, rfl⟩
set_option maxRecDepth 100000 in
theorem kw_Model_copy : kb_vP ke_Model_copy := ⟨kb_all_in (List.mem_of_getElem? (i := 45) rfl) rfl, kb_all_in (List.mem_of_getElem? (i := 687) rfl) rfl, by decide +kernel, by decide +kernel, by decide +kernel, by decide +kernel⟩
set_option maxRecDepth 100000 in
theorem kj_Model_copy : kb_iP ke_Model_copy := ⟨kw_Model_copy, kb_all_in (List.mem_of_getElem? (i := 685) rfl) rfl, kb_all_in (List.mem_of_getElem? (i := 686) rfl) rfl, by decide +kernel, _, _, rfl⟩
set_option maxRecDepth 100000 in
theorem kd_Model_release : kb_mP ke_Model_release := ⟨by decide +kernel, rfl⟩
set_option maxRecDepth 100000 in
theorem kw_Model_release : kb_vP ke_Model_release := ⟨kb_all_in (List.mem_of_getElem? (i := 45) rfl) rfl, kb_all_in (List.mem_of_getElem? (i := 691) rfl) rfl, by decide +kernel, by decide +kernel, by decide +kernel, by decide +kernel⟩
set_option maxRecDepth 100000 in
theorem kj_Model_release : kb_iP ke_Model_release := ⟨kw_Model_release, kb_all_in (List.mem_of_getElem? (i := 689) rfl) rfl, kb_all_in (List.mem_of_getElem? (i := 690) rfl) rfl, by decide +kernel, _, _, rfl⟩
set_option maxRecDepth 100000 in
theorem kd_Model_ask : kb_mP ke_Model_ask := ⟨by decide +kernel, rfl⟩
set_option maxRecDepth 100000 in
theorem kw_Model_ask : kb_vP ke_Model_ask := ⟨kb_all_in (List.mem_of_getElem? (i := 45) rfl) rfl, kb_all_in (List.mem_of_getElem? (i := 695) rfl) rfl, by decide +kernel, by decide +kernel, by decide +kernel, by decide +kernel⟩
set_option maxRecDepth 100000 in
theorem kj_Model_ask : kb_iP ke_Model_ask := ⟨kw_Model_ask, kb_all_in (List.mem_of_getElem? (i := 693) rfl) rfl, kb_all_in (List.mem_of_getElem? (i := 694) rfl) rfl, by decide +kernel, _, _, rfl⟩
set_option maxRecDepth 100000 in
theorem kd_Model_state : kb_mP ke_Model_state := ⟨by decide +kernel, rfl⟩
set_option maxRecDepth 100000 in
theorem kw_Model_state : kb_vP ke_Model_state := ⟨kb_all_in (List.mem_of_getElem? (i := 45) rfl) rfl, kb_all_in (List.mem_of_getElem? (i := 699) rfl) rfl, by decide +kernel, by decide +kernel, by decide +kernel, by decide +kernel⟩
set_option maxRecDepth 100000 in
theorem kj_Model_state : kb_iP ke_Model_state := ⟨kw_Model_state, kb_all_in (List.mem_of_getElem? (i := 697) rfl) rfl, kb_all_in (List.mem_of_getElem? (i := 698) rfl) rfl, by decide +kernel, _, _, rfl⟩
set_option maxRecDepth 100000 in
theorem kd_Model_pass : kb_mP ke_Model_pass := ⟨by decide +kernel, rfl⟩
set_option maxRecDepth 100000 in
theorem kw_Model_pass : kb_vP ke_Model_pass := ⟨kb_all_in (List.mem_of_getElem? (i := 45) rfl) rfl, kb_all_in (List.mem_of_getElem? (i := 703) rfl) rfl, by decide +kernel, by decide +kernel, by decide +kernel, by decide +kernel⟩
set_option maxRecDepth 100000 in
theorem kj_Model_pass : kb_iP ke_Model_pass := ⟨kw_Model_pass, kb_all_in (List.mem_of_getElem? (i := 701) rfl) rfl, kb_all_in (List.mem_of_getElem? (i := 702) rfl) rfl, by decide +kernel, _, _, rfl⟩
set_option maxRecDepth 100000 in
theorem kd_Model_time : kb_mP ke_Model_time := ⟨by decide +kernel, rfl⟩
set_option maxRecDepth 100000 in
theorem kw_Model_time : kb_vP ke_Model_time := ⟨kb_all_in (List.mem_of_getElem? (i := 45) rfl) rfl, kb_all_in (List.mem_of_getElem? (i := 707) rfl) rfl, by decide +kernel, by decide +kernel, by decide +kernel, by decide +kernel⟩
set_option maxRecDepth 100000 in
theorem kj_Model_time : kb_iP ke_Model_time := ⟨kw_Model_time, kb_all_in (List.mem_of_getElem? (i := 705) rfl) rfl, kb_all_in (List.mem_of_getElem? (i := 706) rfl) rfl, by decide +kernel, _, _, rfl⟩
set_option maxRecDepth 100000 in
theorem kd_Model_losses : kb_mP ke_Model_losses := ⟨by decide +kernel, rfl⟩
set_option maxRecDepth 100000 in
theorem kw_Model_losses : kb_vP ke_Model_losses := ⟨kb_all_in (List.mem_of_getElem? (i := 45) rfl) rfl, kb_all_in (List.mem_of_getElem? (i := 711) rfl) rfl, by decide +kernel, by decide +kernel, by decide +kernel, by decide +kernel⟩
set_option maxRecDepth 100000 in
theorem kj_Model_losses : kb_iP ke_Model_losses := ⟨kw_Model_losses, kb_all_in (List.mem_of_getElem? (i := 709) rfl) rfl, kb_all_in (List.mem_of_getElem? (i := 710) rfl) rfl, by decide +kernel, _, _, rfl⟩
set_option maxRecDepth 100000 in
theorem kd_Model_transfers : kb_mP ke_Model_transfers := ⟨by decide +kernel, rfl⟩
set_option maxRecDepth 100000 in
theorem kw_Model_transfers : kb_vP ke_Model_transfers := ⟨kb_all_in (List.mem_of_getElem? (i := 45) rfl) rfl, kb_all_in (List.mem_of_getElem? (i := 715) rfl) rfl, by decide +kernel, by decide +kernel, by decide +kernel, by decide +kernel⟩
set_option maxRecDepth 100000 in
theorem kj_Model_transfers : kb_iP ke_Model_transfers := ⟨kw_Model_transfers, kb_all_in (List.mem_of_getElem? (i := 713) rfl) rfl, kb_all_in (List.mem_of_getElem? (i := 714) rfl) rfl, by decide +kernel, _, _, rfl⟩
set_option maxRecDepth 100000 in
theorem kd_App_appendWord : kb_mP ke_App_appendWord := ⟨by decide +kernel, rfl⟩
set_option maxRecDepth 100000 in
theorem kw_App_appendWord : kb_vP ke_App_appendWord := ⟨kb_all_in (List.mem_of_getElem? (i := 43) rfl) rfl, kb_all_in (List.mem_of_getElem? (i := 209) rfl) rfl, by decide +kernel, by decide +kernel, by decide +kernel, by decide +kernel⟩
set_option maxRecDepth 100000 in
theorem kj_App_appendWord : kb_iP ke_App_appendWord := ⟨kw_App_appendWord, kb_all_in (List.mem_of_getElem? (i := 207) rfl) rfl, kb_all_in (List.mem_of_getElem? (i := 208) rfl) rfl, by decide +kernel, _, _, rfl⟩
set_option maxRecDepth 100000 in
theorem kd_App_writeWord : kb_mP ke_App_writeWord := ⟨by decide +kernel, rfl⟩
set_option maxRecDepth 100000 in
theorem kw_App_writeWord : kb_vP ke_App_writeWord := ⟨kb_all_in (List.mem_of_getElem? (i := 43) rfl) rfl, kb_all_in (List.mem_of_getElem? (i := 345) rfl) rfl, by decide +kernel, by decide +kernel, by decide +kernel, by decide +kernel⟩
set_option maxRecDepth 100000 in
theorem kj_App_writeWord : kb_iP ke_App_writeWord := ⟨kw_App_writeWord, kb_all_in (List.mem_of_getElem? (i := 343) rfl) rfl, kb_all_in (List.mem_of_getElem? (i := 344) rfl) rfl, by decide +kernel, _, _, rfl⟩
set_option maxRecDepth 100000 in
theorem kd_App_readWord : kb_mP ke_App_readWord := ⟨by decide +kernel, rfl⟩
set_option maxRecDepth 100000 in
theorem kw_App_readWord : kb_vP ke_App_readWord := ⟨kb_all_in (List.mem_of_getElem? (i := 43) rfl) rfl, kb_all_in (List.mem_of_getElem? (i := 353) rfl) rfl, by decide +kernel, by decide +kernel, by decide +kernel, by decide +kernel⟩
set_option maxRecDepth 100000 in
theorem kj_App_readWord : kb_iP ke_App_readWord := ⟨kw_App_readWord, kb_all_in (List.mem_of_getElem? (i := 351) rfl) rfl, kb_all_in (List.mem_of_getElem? (i := 352) rfl) rfl, by decide +kernel, _, _, rfl⟩
set_option maxRecDepth 100000 in
theorem kd_App_lengthOf : kb_mP ke_App_lengthOf := ⟨by decide +kernel, rfl⟩
set_option maxRecDepth 100000 in
theorem kw_App_lengthOf : kb_vP ke_App_lengthOf := ⟨kb_all_in (List.mem_of_getElem? (i := 43) rfl) rfl, kb_all_in (List.mem_of_getElem? (i := 365) rfl) rfl, by decide +kernel, by decide +kernel, by decide +kernel, by decide +kernel⟩
set_option maxRecDepth 100000 in
theorem kj_App_lengthOf : kb_iP ke_App_lengthOf := ⟨kw_App_lengthOf, kb_all_in (List.mem_of_getElem? (i := 363) rfl) rfl, kb_all_in (List.mem_of_getElem? (i := 364) rfl) rfl, by decide +kernel, _, _, rfl⟩
set_option maxRecDepth 100000 in
theorem kd_App_eraseFile : kb_mP ke_App_eraseFile := ⟨by decide +kernel, rfl⟩
set_option maxRecDepth 100000 in
theorem kw_App_eraseFile : kb_vP ke_App_eraseFile := ⟨kb_all_in (List.mem_of_getElem? (i := 43) rfl) rfl, kb_all_in (List.mem_of_getElem? (i := 373) rfl) rfl, by decide +kernel, by decide +kernel, by decide +kernel, by decide +kernel⟩
set_option maxRecDepth 100000 in
theorem kj_App_eraseFile : kb_iP ke_App_eraseFile := ⟨kw_App_eraseFile, kb_all_in (List.mem_of_getElem? (i := 371) rfl) rfl, kb_all_in (List.mem_of_getElem? (i := 372) rfl) rfl, by decide +kernel, _, _, rfl⟩
set_option maxRecDepth 100000 in
theorem kd_App_storeAllChanged : kb_mP ke_App_storeAllChanged := ⟨by decide +kernel, rfl⟩
set_option maxRecDepth 100000 in
theorem kw_App_storeAllChanged : kb_vP ke_App_storeAllChanged := ⟨kb_all_in (List.mem_of_getElem? (i := 43) rfl) rfl, kb_all_in (List.mem_of_getElem? (i := 390) rfl) rfl, by decide +kernel, by decide +kernel, by decide +kernel, by decide +kernel⟩
set_option maxRecDepth 100000 in
theorem kj_App_storeAllChanged : kb_iP ke_App_storeAllChanged := ⟨kw_App_storeAllChanged, kb_all_in (List.mem_of_getElem? (i := 388) rfl) rfl, kb_all_in (List.mem_of_getElem? (i := 389) rfl) rfl, by decide +kernel, _, _, rfl⟩
set_option maxRecDepth 100000 in
theorem kd_App_giveUpOldestFrame : kb_mP ke_App_giveUpOldestFrame := ⟨by decide +kernel, rfl⟩
set_option maxRecDepth 100000 in
theorem kw_App_giveUpOldestFrame : kb_vP ke_App_giveUpOldestFrame := ⟨kb_all_in (List.mem_of_getElem? (i := 43) rfl) rfl, kb_all_in (List.mem_of_getElem? (i := 398) rfl) rfl, by decide +kernel, by decide +kernel, by decide +kernel, by decide +kernel⟩
set_option maxRecDepth 100000 in
theorem kj_App_giveUpOldestFrame : kb_iP ke_App_giveUpOldestFrame := ⟨kw_App_giveUpOldestFrame, kb_all_in (List.mem_of_getElem? (i := 396) rfl) rfl, kb_all_in (List.mem_of_getElem? (i := 397) rfl) rfl, by decide +kernel, _, _, rfl⟩
set_option maxRecDepth 100000 in
theorem kd_App_isFile : kb_mP ke_App_isFile := ⟨by decide +kernel, rfl⟩
set_option maxRecDepth 100000 in
theorem kw_App_isFile : kb_vP ke_App_isFile := ⟨kb_all_in (List.mem_of_getElem? (i := 43) rfl) rfl, kb_all_in (List.mem_of_getElem? (i := 212) rfl) rfl, by decide +kernel, by decide +kernel, by decide +kernel, by decide +kernel⟩
set_option maxRecDepth 100000 in
theorem kj_App_isFile : kb_sP ke_App_isFile := ⟨kw_App_isFile, kb_all_in (List.mem_of_getElem? (i := 211) rfl) rfl, by decide +kernel⟩
set_option maxRecDepth 100000 in
theorem kd_App_makeRoomForWord : kb_mP ke_App_makeRoomForWord := ⟨by decide +kernel, rfl⟩
set_option maxRecDepth 100000 in
theorem kw_App_makeRoomForWord : kb_vP ke_App_makeRoomForWord := ⟨kb_all_in (List.mem_of_getElem? (i := 43) rfl) rfl, kb_all_in (List.mem_of_getElem? (i := 216) rfl) rfl, by decide +kernel, by decide +kernel, by decide +kernel, by decide +kernel⟩
set_option maxRecDepth 100000 in
theorem kj_App_makeRoomForWord : kb_iP ke_App_makeRoomForWord := ⟨kw_App_makeRoomForWord, kb_all_in (List.mem_of_getElem? (i := 215) rfl) rfl, kb_all_in (List.mem_of_getElem? (i := 1) rfl) rfl, by decide +kernel, _, _, rfl⟩
set_option maxRecDepth 100000 in
theorem kd_App_changeWord : kb_mP ke_App_changeWord := ⟨by decide +kernel, rfl⟩
set_option maxRecDepth 100000 in
theorem kw_App_changeWord : kb_vP ke_App_changeWord := ⟨kb_all_in (List.mem_of_getElem? (i := 43) rfl) rfl, kb_all_in (List.mem_of_getElem? (i := 329) rfl) rfl, by decide +kernel, by decide +kernel, by decide +kernel, by decide +kernel⟩
set_option maxRecDepth 100000 in
theorem kj_App_changeWord : kb_iP ke_App_changeWord := ⟨kw_App_changeWord, kb_all_in (List.mem_of_getElem? (i := 328) rfl) rfl, kb_all_in (List.mem_of_getElem? (i := 14) rfl) rfl, by decide +kernel, _, _, rfl⟩
set_option maxRecDepth 100000 in
theorem kd_App_openPartOf : kb_mP ke_App_openPartOf := ⟨by decide +kernel, rfl⟩
set_option maxRecDepth 100000 in
theorem kw_App_openPartOf : kb_vP ke_App_openPartOf := ⟨kb_all_in (List.mem_of_getElem? (i := 43) rfl) rfl, kb_all_in (List.mem_of_getElem? (i := 286) rfl) rfl, by decide +kernel, by decide +kernel, by decide +kernel, by decide +kernel⟩
set_option maxRecDepth 100000 in
theorem kj_App_openPartOf : kb_iP ke_App_openPartOf := ⟨kw_App_openPartOf, kb_all_in (List.mem_of_getElem? (i := 285) rfl) rfl, kb_all_in (List.mem_of_getElem? (i := 6) rfl) rfl, by decide +kernel, _, _, rfl⟩
set_option maxRecDepth 100000 in
theorem kd_App_slotFor : kb_mP ke_App_slotFor := ⟨by decide +kernel, rfl⟩
set_option maxRecDepth 100000 in
theorem kw_App_slotFor : kb_vP ke_App_slotFor := ⟨kb_all_in (List.mem_of_getElem? (i := 43) rfl) rfl, kb_all_in (List.mem_of_getElem? (i := 290) rfl) rfl, by decide +kernel, by decide +kernel, by decide +kernel, by decide +kernel⟩
set_option maxRecDepth 100000 in
theorem kj_App_slotFor : kb_iP ke_App_slotFor := ⟨kw_App_slotFor, kb_all_in (List.mem_of_getElem? (i := 289) rfl) rfl, kb_all_in (List.mem_of_getElem? (i := 7) rfl) rfl, by decide +kernel, _, _, rfl⟩
set_option maxRecDepth 100000 in
theorem kd_App_slotOf : kb_mP ke_App_slotOf := ⟨by decide +kernel, rfl⟩
set_option maxRecDepth 100000 in
theorem kw_App_slotOf : kb_vP ke_App_slotOf := ⟨kb_all_in (List.mem_of_getElem? (i := 43) rfl) rfl, kb_all_in (List.mem_of_getElem? (i := 294) rfl) rfl, by decide +kernel, by decide +kernel, by decide +kernel, by decide +kernel⟩
set_option maxRecDepth 100000 in
theorem kj_App_slotOf : kb_iP ke_App_slotOf := ⟨kw_App_slotOf, kb_all_in (List.mem_of_getElem? (i := 293) rfl) rfl, kb_all_in (List.mem_of_getElem? (i := 8) rfl) rfl, by decide +kernel, _, _, rfl⟩
set_option maxRecDepth 100000 in
theorem kd_App_oldestSlot : kb_mP ke_App_oldestSlot := ⟨by decide +kernel, rfl⟩
set_option maxRecDepth 100000 in
theorem kw_App_oldestSlot : kb_vP ke_App_oldestSlot := ⟨kb_all_in (List.mem_of_getElem? (i := 43) rfl) rfl, kb_all_in (List.mem_of_getElem? (i := 298) rfl) rfl, by decide +kernel, by decide +kernel, by decide +kernel, by decide +kernel⟩
set_option maxRecDepth 100000 in
theorem kj_App_oldestSlot : kb_iP ke_App_oldestSlot := ⟨kw_App_oldestSlot, kb_all_in (List.mem_of_getElem? (i := 297) rfl) rfl, kb_all_in (List.mem_of_getElem? (i := 9) rfl) rfl, by decide +kernel, _, _, rfl⟩
set_option maxRecDepth 100000 in
theorem kd_App_load : kb_mP ke_App_load := ⟨by decide +kernel, rfl⟩
set_option maxRecDepth 100000 in
theorem kw_App_load : kb_vP ke_App_load := ⟨kb_all_in (List.mem_of_getElem? (i := 43) rfl) rfl, kb_all_in (List.mem_of_getElem? (i := 325) rfl) rfl, by decide +kernel, by decide +kernel, by decide +kernel, by decide +kernel⟩
set_option maxRecDepth 100000 in
theorem kj_App_load : kb_iP ke_App_load := ⟨kw_App_load, kb_all_in (List.mem_of_getElem? (i := 324) rfl) rfl, kb_all_in (List.mem_of_getElem? (i := 13) rfl) rfl, by decide +kernel, _, _, rfl⟩
set_option maxRecDepth 100000 in
theorem kd_App_storeIfChanged : kb_mP ke_App_storeIfChanged := ⟨by decide +kernel, rfl⟩
set_option maxRecDepth 100000 in
theorem kw_App_storeIfChanged : kb_vP ke_App_storeIfChanged := ⟨kb_all_in (List.mem_of_getElem? (i := 43) rfl) rfl, kb_all_in (List.mem_of_getElem? (i := 306) rfl) rfl, by decide +kernel, by decide +kernel, by decide +kernel, by decide +kernel⟩
set_option maxRecDepth 100000 in
theorem kj_App_storeIfChanged : kb_iP ke_App_storeIfChanged := ⟨kw_App_storeIfChanged, kb_all_in (List.mem_of_getElem? (i := 305) rfl) rfl, kb_all_in (List.mem_of_getElem? (i := 10) rfl) rfl, by decide +kernel, _, _, rfl⟩
set_option maxRecDepth 100000 in
theorem kd_App_blockOf : kb_mP ke_App_blockOf := ⟨by decide +kernel, rfl⟩
set_option maxRecDepth 100000 in
theorem kw_App_blockOf : kb_vP ke_App_blockOf := ⟨kb_all_in (List.mem_of_getElem? (i := 43) rfl) rfl, kb_all_in (List.mem_of_getElem? (i := 310) rfl) rfl, by decide +kernel, by decide +kernel, by decide +kernel, by decide +kernel⟩
set_option maxRecDepth 100000 in
theorem kj_App_blockOf : kb_iP ke_App_blockOf := ⟨kw_App_blockOf, kb_all_in (List.mem_of_getElem? (i := 309) rfl) rfl, kb_all_in (List.mem_of_getElem? (i := 11) rfl) rfl, by decide +kernel, _, _, rfl⟩
set_option maxRecDepth 100000 in
theorem kd_App_dropPart : kb_mP ke_App_dropPart := ⟨by decide +kernel, rfl⟩
set_option maxRecDepth 100000 in
theorem kw_App_dropPart : kb_vP ke_App_dropPart := ⟨kb_all_in (List.mem_of_getElem? (i := 43) rfl) rfl, kb_all_in (List.mem_of_getElem? (i := 377) rfl) rfl, by decide +kernel, by decide +kernel, by decide +kernel, by decide +kernel⟩
set_option maxRecDepth 100000 in
theorem kj_App_dropPart : kb_iP ke_App_dropPart := ⟨kw_App_dropPart, kb_all_in (List.mem_of_getElem? (i := 376) rfl) rfl, kb_all_in (List.mem_of_getElem? (i := 16) rfl) rfl, by decide +kernel, _, _, rfl⟩
set_option maxRecDepth 100000 in
theorem kd_App_giveFrameBack : kb_mP ke_App_giveFrameBack := ⟨by decide +kernel, rfl⟩
set_option maxRecDepth 100000 in
theorem kw_App_giveFrameBack : kb_vP ke_App_giveFrameBack := ⟨kb_all_in (List.mem_of_getElem? (i := 43) rfl) rfl, kb_all_in (List.mem_of_getElem? (i := 381) rfl) rfl, by decide +kernel, by decide +kernel, by decide +kernel, by decide +kernel⟩
set_option maxRecDepth 100000 in
theorem kj_App_giveFrameBack : kb_iP ke_App_giveFrameBack := ⟨kw_App_giveFrameBack, kb_all_in (List.mem_of_getElem? (i := 380) rfl) rfl, kb_all_in (List.mem_of_getElem? (i := 17) rfl) rfl, by decide +kernel, _, _, rfl⟩
set_option maxRecDepth 100000 in
theorem kd_Guest_hasAllTickets : kb_mP ke_Guest_hasAllTickets := ⟨by decide +kernel, rfl⟩
set_option maxRecDepth 100000 in
theorem kw_Guest_hasAllTickets : kb_vP ke_Guest_hasAllTickets := ⟨kb_all_in (List.mem_of_getElem? (i := 42) rfl) rfl, kb_all_in (List.mem_of_getElem? (i := 414) rfl) rfl, by decide +kernel, by decide +kernel, by decide +kernel, by decide +kernel⟩
set_option maxRecDepth 100000 in
theorem kj_Guest_hasAllTickets : kb_iP ke_Guest_hasAllTickets := ⟨kw_Guest_hasAllTickets, kb_all_in (List.mem_of_getElem? (i := 412) rfl) rfl, kb_all_in (List.mem_of_getElem? (i := 413) rfl) rfl, by decide +kernel, _, _, rfl⟩
set_option maxRecDepth 100000 in
theorem kd_Guest_addTicket : kb_mP ke_Guest_addTicket := ⟨by decide +kernel, rfl⟩
set_option maxRecDepth 100000 in
theorem kw_Guest_addTicket : kb_vP ke_Guest_addTicket := ⟨kb_all_in (List.mem_of_getElem? (i := 42) rfl) rfl, kb_all_in (List.mem_of_getElem? (i := 418) rfl) rfl, by decide +kernel, by decide +kernel, by decide +kernel, by decide +kernel⟩
set_option maxRecDepth 100000 in
theorem kj_Guest_addTicket : kb_iP ke_Guest_addTicket := ⟨kw_Guest_addTicket, kb_all_in (List.mem_of_getElem? (i := 416) rfl) rfl, kb_all_in (List.mem_of_getElem? (i := 417) rfl) rfl, by decide +kernel, _, _, rfl⟩
set_option maxRecDepth 100000 in
theorem kd_Guest_stateOf : kb_mP ke_Guest_stateOf := ⟨by decide +kernel, rfl⟩
set_option maxRecDepth 100000 in
theorem kw_Guest_stateOf : kb_vP ke_Guest_stateOf := ⟨kb_all_in (List.mem_of_getElem? (i := 42) rfl) rfl, kb_all_in (List.mem_of_getElem? (i := 440) rfl) rfl, by decide +kernel, by decide +kernel, by decide +kernel, by decide +kernel⟩
set_option maxRecDepth 100000 in
theorem kj_Guest_stateOf : kb_iP ke_Guest_stateOf := ⟨kw_Guest_stateOf, kb_all_in (List.mem_of_getElem? (i := 438) rfl) rfl, kb_all_in (List.mem_of_getElem? (i := 439) rfl) rfl, by decide +kernel, _, _, rfl⟩
set_option maxRecDepth 100000 in
theorem kd_Guest_putWord : kb_mP ke_Guest_putWord := ⟨by decide +kernel, rfl⟩
set_option maxRecDepth 100000 in
theorem kw_Guest_putWord : kb_vP ke_Guest_putWord := ⟨kb_all_in (List.mem_of_getElem? (i := 42) rfl) rfl, kb_all_in (List.mem_of_getElem? (i := 428) rfl) rfl, by decide +kernel, by decide +kernel, by decide +kernel, by decide +kernel⟩
set_option maxRecDepth 100000 in
theorem kj_Guest_putWord : kb_iP ke_Guest_putWord := ⟨kw_Guest_putWord, kb_all_in (List.mem_of_getElem? (i := 426) rfl) rfl, kb_all_in (List.mem_of_getElem? (i := 427) rfl) rfl, by decide +kernel, _, _, rfl⟩
set_option maxRecDepth 100000 in
theorem kd_Guest_getWord : kb_mP ke_Guest_getWord := ⟨by decide +kernel, rfl⟩
set_option maxRecDepth 100000 in
theorem kw_Guest_getWord : kb_vP ke_Guest_getWord := ⟨kb_all_in (List.mem_of_getElem? (i := 42) rfl) rfl, kb_all_in (List.mem_of_getElem? (i := 449) rfl) rfl, by decide +kernel, by decide +kernel, by decide +kernel, by decide +kernel⟩
set_option maxRecDepth 100000 in
theorem kj_Guest_getWord : kb_iP ke_Guest_getWord := ⟨kw_Guest_getWord, kb_all_in (List.mem_of_getElem? (i := 447) rfl) rfl, kb_all_in (List.mem_of_getElem? (i := 448) rfl) rfl, by decide +kernel, _, _, rfl⟩
set_option maxRecDepth 100000 in
theorem kd_Guest_copyWords : kb_mP ke_Guest_copyWords := ⟨by decide +kernel, rfl⟩
set_option maxRecDepth 100000 in
theorem kw_Guest_copyWords : kb_vP ke_Guest_copyWords := ⟨kb_all_in (List.mem_of_getElem? (i := 42) rfl) rfl, kb_all_in (List.mem_of_getElem? (i := 458) rfl) rfl, by decide +kernel, by decide +kernel, by decide +kernel, by decide +kernel⟩
set_option maxRecDepth 100000 in
theorem kj_Guest_copyWords : kb_iP ke_Guest_copyWords := ⟨kw_Guest_copyWords, kb_all_in (List.mem_of_getElem? (i := 456) rfl) rfl, kb_all_in (List.mem_of_getElem? (i := 457) rfl) rfl, by decide +kernel, _, _, rfl⟩
set_option maxRecDepth 100000 in
theorem kd_Guest_giveBack : kb_mP ke_Guest_giveBack := ⟨by decide +kernel, rfl⟩
set_option maxRecDepth 100000 in
theorem kw_Guest_giveBack : kb_vP ke_Guest_giveBack := ⟨kb_all_in (List.mem_of_getElem? (i := 42) rfl) rfl, kb_all_in (List.mem_of_getElem? (i := 467) rfl) rfl, by decide +kernel, by decide +kernel, by decide +kernel, by decide +kernel⟩
set_option maxRecDepth 100000 in
theorem kj_Guest_giveBack : kb_iP ke_Guest_giveBack := ⟨kw_Guest_giveBack, kb_all_in (List.mem_of_getElem? (i := 465) rfl) rfl, kb_all_in (List.mem_of_getElem? (i := 466) rfl) rfl, by decide +kernel, _, _, rfl⟩
set_option maxRecDepth 100000 in
theorem kd_Guest_askFor : kb_mP ke_Guest_askFor := ⟨by decide +kernel, rfl⟩
set_option maxRecDepth 100000 in
theorem kw_Guest_askFor : kb_vP ke_Guest_askFor := ⟨kb_all_in (List.mem_of_getElem? (i := 42) rfl) rfl, kb_all_in (List.mem_of_getElem? (i := 475) rfl) rfl, by decide +kernel, by decide +kernel, by decide +kernel, by decide +kernel⟩
set_option maxRecDepth 100000 in
theorem kj_Guest_askFor : kb_iP ke_Guest_askFor := ⟨kw_Guest_askFor, kb_all_in (List.mem_of_getElem? (i := 473) rfl) rfl, kb_all_in (List.mem_of_getElem? (i := 474) rfl) rfl, by decide +kernel, _, _, rfl⟩
set_option maxRecDepth 100000 in
theorem kd_Guest_askForLastOf : kb_mP ke_Guest_askForLastOf := ⟨by decide +kernel, rfl⟩
set_option maxRecDepth 100000 in
theorem kw_Guest_askForLastOf : kb_vP ke_Guest_askForLastOf := ⟨kb_all_in (List.mem_of_getElem? (i := 42) rfl) rfl, kb_all_in (List.mem_of_getElem? (i := 263) rfl) rfl, by decide +kernel, by decide +kernel, by decide +kernel, by decide +kernel⟩
set_option maxRecDepth 100000 in
theorem kj_Guest_askForLastOf : kb_iP ke_Guest_askForLastOf := ⟨kw_Guest_askForLastOf, kb_all_in (List.mem_of_getElem? (i := 261) rfl) rfl, kb_all_in (List.mem_of_getElem? (i := 262) rfl) rfl, by decide +kernel, _, _, rfl⟩
set_option maxRecDepth 100000 in
theorem kd_Guest_earliestDeadline : kb_mP ke_Guest_earliestDeadline := ⟨by decide +kernel, rfl⟩
set_option maxRecDepth 100000 in
theorem kw_Guest_earliestDeadline : kb_vP ke_Guest_earliestDeadline := ⟨kb_all_in (List.mem_of_getElem? (i := 42) rfl) rfl, kb_all_in (List.mem_of_getElem? (i := 249) rfl) rfl, by decide +kernel, by decide +kernel, by decide +kernel, by decide +kernel⟩
set_option maxRecDepth 100000 in
theorem kj_Guest_earliestDeadline : kb_iP ke_Guest_earliestDeadline := ⟨kw_Guest_earliestDeadline, kb_all_in (List.mem_of_getElem? (i := 247) rfl) rfl, kb_all_in (List.mem_of_getElem? (i := 248) rfl) rfl, by decide +kernel, _, _, rfl⟩
set_option maxRecDepth 100000 in
theorem kd_Guest_loseAllDue : kb_mP ke_Guest_loseAllDue := ⟨by decide +kernel, rfl⟩
set_option maxRecDepth 100000 in
theorem kw_Guest_loseAllDue : kb_vP ke_Guest_loseAllDue := ⟨kb_all_in (List.mem_of_getElem? (i := 42) rfl) rfl, kb_all_in (List.mem_of_getElem? (i := 271) rfl) rfl, by decide +kernel, by decide +kernel, by decide +kernel, by decide +kernel⟩
set_option maxRecDepth 100000 in
theorem kj_Guest_loseAllDue : kb_iP ke_Guest_loseAllDue := ⟨kw_Guest_loseAllDue, kb_all_in (List.mem_of_getElem? (i := 269) rfl) rfl, kb_all_in (List.mem_of_getElem? (i := 270) rfl) rfl, by decide +kernel, _, _, rfl⟩
set_option maxRecDepth 100000 in
theorem kd_Guest_isLive : kb_mP ke_Guest_isLive := ⟨by decide +kernel, rfl⟩
set_option maxRecDepth 100000 in
theorem kw_Guest_isLive : kb_vP ke_Guest_isLive := ⟨kb_all_in (List.mem_of_getElem? (i := 42) rfl) rfl, kb_all_in (List.mem_of_getElem? (i := 436) rfl) rfl, by decide +kernel, by decide +kernel, by decide +kernel, by decide +kernel⟩
set_option maxRecDepth 100000 in
theorem kj_Guest_isLive : kb_iP ke_Guest_isLive := ⟨kw_Guest_isLive, kb_all_in (List.mem_of_getElem? (i := 435) rfl) rfl, kb_all_in (List.mem_of_getElem? (i := 19) rfl) rfl, by decide +kernel, _, _, rfl⟩
set_option maxRecDepth 100000 in
theorem kd_Guest_isLiveOf : kb_mP ke_Guest_isLiveOf := ⟨by decide +kernel, rfl⟩
set_option maxRecDepth 100000 in
theorem kw_Guest_isLiveOf : kb_vP ke_Guest_isLiveOf := ⟨kb_all_in (List.mem_of_getElem? (i := 42) rfl) rfl, kb_all_in (List.mem_of_getElem? (i := 432) rfl) rfl, by decide +kernel, by decide +kernel, by decide +kernel, by decide +kernel⟩
set_option maxRecDepth 100000 in
theorem kj_Guest_isLiveOf : kb_iP ke_Guest_isLiveOf := ⟨kw_Guest_isLiveOf, kb_all_in (List.mem_of_getElem? (i := 431) rfl) rfl, kb_all_in (List.mem_of_getElem? (i := 18) rfl) rfl, by decide +kernel, _, _, rfl⟩
set_option maxRecDepth 100000 in
theorem kd_Guest_poolOf : kb_mP ke_Guest_poolOf := ⟨by decide +kernel, rfl⟩
set_option maxRecDepth 100000 in
theorem kw_Guest_poolOf : kb_vP ke_Guest_poolOf := ⟨kb_all_in (List.mem_of_getElem? (i := 42) rfl) rfl, kb_all_in (List.mem_of_getElem? (i := 275) rfl) rfl, by decide +kernel, by decide +kernel, by decide +kernel, by decide +kernel⟩
set_option maxRecDepth 100000 in
theorem kj_Guest_poolOf : kb_iP ke_Guest_poolOf := ⟨kw_Guest_poolOf, kb_all_in (List.mem_of_getElem? (i := 274) rfl) rfl, kb_all_in (List.mem_of_getElem? (i := 5) rfl) rfl, by decide +kernel, _, _, rfl⟩
set_option maxRecDepth 100000 in
theorem kd_Kernel_poolOf : kb_mP ke_Kernel_poolOf := ⟨by decide +kernel, rfl⟩
set_option maxRecDepth 100000 in
theorem kw_Kernel_poolOf : kb_vP ke_Kernel_poolOf := ⟨kb_all_in (List.mem_of_getElem? (i := 39) rfl) rfl, kb_all_in (List.mem_of_getElem? (i := 236) rfl) rfl, by decide +kernel, by decide +kernel, by decide +kernel, by decide +kernel⟩
set_option maxRecDepth 100000 in
theorem kj_Kernel_poolOf : kb_iP ke_Kernel_poolOf := ⟨kw_Kernel_poolOf, kb_all_in (List.mem_of_getElem? (i := 234) rfl) rfl, kb_all_in (List.mem_of_getElem? (i := 235) rfl) rfl, by decide +kernel, _, _, rfl⟩
set_option maxRecDepth 100000 in
theorem kd_Kernel_guestOf : kb_mP ke_Kernel_guestOf := ⟨by decide +kernel, rfl⟩
set_option maxRecDepth 100000 in
theorem kw_Kernel_guestOf : kb_vP ke_Kernel_guestOf := ⟨kb_all_in (List.mem_of_getElem? (i := 39) rfl) rfl, kb_all_in (List.mem_of_getElem? (i := 410) rfl) rfl, by decide +kernel, by decide +kernel, by decide +kernel, by decide +kernel⟩
set_option maxRecDepth 100000 in
theorem kj_Kernel_guestOf : kb_iP ke_Kernel_guestOf := ⟨kw_Kernel_guestOf, kb_all_in (List.mem_of_getElem? (i := 408) rfl) rfl, kb_all_in (List.mem_of_getElem? (i := 409) rfl) rfl, by decide +kernel, _, _, rfl⟩
set_option maxRecDepth 100000 in
theorem kd_Kernel_bindForGuest : kb_mP ke_Kernel_bindForGuest := ⟨by decide +kernel, rfl⟩
set_option maxRecDepth 100000 in
theorem kw_Kernel_bindForGuest : kb_vP ke_Kernel_bindForGuest := ⟨kb_all_in (List.mem_of_getElem? (i := 39) rfl) rfl, kb_all_in (List.mem_of_getElem? (i := 406) rfl) rfl, by decide +kernel, by decide +kernel, by decide +kernel, by decide +kernel⟩
set_option maxRecDepth 100000 in
theorem kj_Kernel_bindForGuest : kb_iP ke_Kernel_bindForGuest := ⟨kw_Kernel_bindForGuest, kb_all_in (List.mem_of_getElem? (i := 404) rfl) rfl, kb_all_in (List.mem_of_getElem? (i := 405) rfl) rfl, by decide +kernel, _, _, rfl⟩
set_option maxRecDepth 100000 in
theorem kd_Kernel_bindForApplication : kb_mP ke_Kernel_bindForApplication := ⟨by decide +kernel, rfl⟩
set_option maxRecDepth 100000 in
theorem kw_Kernel_bindForApplication : kb_vP ke_Kernel_bindForApplication := ⟨kb_all_in (List.mem_of_getElem? (i := 39) rfl) rfl, kb_all_in (List.mem_of_getElem? (i := 228) rfl) rfl, by decide +kernel, by decide +kernel, by decide +kernel, by decide +kernel⟩
set_option maxRecDepth 100000 in
theorem kj_Kernel_bindForApplication : kb_iP ke_Kernel_bindForApplication := ⟨kw_Kernel_bindForApplication, kb_all_in (List.mem_of_getElem? (i := 226) rfl) rfl, kb_all_in (List.mem_of_getElem? (i := 227) rfl) rfl, by decide +kernel, _, _, rfl⟩
set_option maxRecDepth 100000 in
theorem kd_Kernel_moveTimeTo : kb_mP ke_Kernel_moveTimeTo := ⟨by decide +kernel, rfl⟩
set_option maxRecDepth 100000 in
theorem kw_Kernel_moveTimeTo : kb_vP ke_Kernel_moveTimeTo := ⟨kb_all_in (List.mem_of_getElem? (i := 39) rfl) rfl, kb_all_in (List.mem_of_getElem? (i := 267) rfl) rfl, by decide +kernel, by decide +kernel, by decide +kernel, by decide +kernel⟩
set_option maxRecDepth 100000 in
theorem kj_Kernel_moveTimeTo : kb_iP ke_Kernel_moveTimeTo := ⟨kw_Kernel_moveTimeTo, kb_all_in (List.mem_of_getElem? (i := 265) rfl) rfl, kb_all_in (List.mem_of_getElem? (i := 266) rfl) rfl, by decide +kernel, _, _, rfl⟩
set_option maxRecDepth 100000 in
theorem kd_Kernel_claim : kb_mP ke_Kernel_claim := ⟨by decide +kernel, rfl⟩
set_option maxRecDepth 100000 in
theorem kw_Kernel_claim : kb_vP ke_Kernel_claim := ⟨kb_all_in (List.mem_of_getElem? (i := 39) rfl) rfl, kb_all_in (List.mem_of_getElem? (i := 232) rfl) rfl, by decide +kernel, by decide +kernel, by decide +kernel, by decide +kernel⟩
set_option maxRecDepth 100000 in
theorem kj_Kernel_claim : kb_iP ke_Kernel_claim := ⟨kw_Kernel_claim, kb_all_in (List.mem_of_getElem? (i := 231) rfl) rfl, kb_all_in (List.mem_of_getElem? (i := 2) rfl) rfl, by decide +kernel, _, _, rfl⟩
set_option maxRecDepth 100000 in
theorem kd_Kernel_askRicherGuest : kb_mP ke_Kernel_askRicherGuest := ⟨by decide +kernel, rfl⟩
set_option maxRecDepth 100000 in
theorem kw_Kernel_askRicherGuest : kb_vP ke_Kernel_askRicherGuest := ⟨kb_all_in (List.mem_of_getElem? (i := 39) rfl) rfl, kb_all_in (List.mem_of_getElem? (i := 258) rfl) rfl, by decide +kernel, by decide +kernel, by decide +kernel, by decide +kernel⟩
set_option maxRecDepth 100000 in
theorem kj_Kernel_askRicherGuest : kb_iP ke_Kernel_askRicherGuest := ⟨kw_Kernel_askRicherGuest, kb_all_in (List.mem_of_getElem? (i := 257) rfl) rfl, kb_all_in (List.mem_of_getElem? (i := 4) rfl) rfl, by decide +kernel, _, _, rfl⟩
set_option maxRecDepth 100000 in
theorem kd_Kernel_earliestDeadline : kb_mP ke_Kernel_earliestDeadline := ⟨by decide +kernel, rfl⟩
set_option maxRecDepth 100000 in
theorem kw_Kernel_earliestDeadline : kb_vP ke_Kernel_earliestDeadline := ⟨kb_all_in (List.mem_of_getElem? (i := 39) rfl) rfl, kb_all_in (List.mem_of_getElem? (i := 245) rfl) rfl, by decide +kernel, by decide +kernel, by decide +kernel, by decide +kernel⟩
set_option maxRecDepth 100000 in
theorem kj_Kernel_earliestDeadline : kb_iP ke_Kernel_earliestDeadline := ⟨kw_Kernel_earliestDeadline, kb_all_in (List.mem_of_getElem? (i := 244) rfl) rfl, kb_all_in (List.mem_of_getElem? (i := 3) rfl) rfl, by decide +kernel, _, _, rfl⟩
set_option maxRecDepth 100000 in
theorem kd_Pool_bindFreeOne : kb_mP ke_Pool_bindFreeOne := ⟨by decide +kernel, rfl⟩
set_option maxRecDepth 100000 in
theorem kw_Pool_bindFreeOne : kb_vP ke_Pool_bindFreeOne := ⟨kb_all_in (List.mem_of_getElem? (i := 40) rfl) rfl, kb_all_in (List.mem_of_getElem? (i := 240) rfl) rfl, by decide +kernel, by decide +kernel, by decide +kernel, by decide +kernel⟩
set_option maxRecDepth 100000 in
theorem kj_Pool_bindFreeOne : kb_iP ke_Pool_bindFreeOne := ⟨kw_Pool_bindFreeOne, kb_all_in (List.mem_of_getElem? (i := 238) rfl) rfl, kb_all_in (List.mem_of_getElem? (i := 239) rfl) rfl, by decide +kernel, _, _, rfl⟩
set_option maxRecDepth 100000 in
theorem kd_Pool_endBinding : kb_mP ke_Pool_endBinding := ⟨by decide +kernel, rfl⟩
set_option maxRecDepth 100000 in
theorem kw_Pool_endBinding : kb_vP ke_Pool_endBinding := ⟨kb_all_in (List.mem_of_getElem? (i := 40) rfl) rfl, kb_all_in (List.mem_of_getElem? (i := 279) rfl) rfl, by decide +kernel, by decide +kernel, by decide +kernel, by decide +kernel⟩
set_option maxRecDepth 100000 in
theorem kj_Pool_endBinding : kb_iP ke_Pool_endBinding := ⟨kw_Pool_endBinding, kb_all_in (List.mem_of_getElem? (i := 277) rfl) rfl, kb_all_in (List.mem_of_getElem? (i := 278) rfl) rfl, by decide +kernel, _, _, rfl⟩
set_option maxRecDepth 100000 in
theorem kd_Pool_countFree : kb_mP ke_Pool_countFree := ⟨by decide +kernel, rfl⟩
set_option maxRecDepth 100000 in
theorem kw_Pool_countFree : kb_vP ke_Pool_countFree := ⟨kb_all_in (List.mem_of_getElem? (i := 40) rfl) rfl, kb_all_in (List.mem_of_getElem? (i := 498) rfl) rfl, by decide +kernel, by decide +kernel, by decide +kernel, by decide +kernel⟩
set_option maxRecDepth 100000 in
theorem kj_Pool_countFree : kb_iP ke_Pool_countFree := ⟨kw_Pool_countFree, kb_all_in (List.mem_of_getElem? (i := 496) rfl) rfl, kb_all_in (List.mem_of_getElem? (i := 497) rfl) rfl, by decide +kernel, _, _, rfl⟩
set_option maxRecDepth 100000 in
theorem kd_Pool_countHeldBy : kb_mP ke_Pool_countHeldBy := ⟨by decide +kernel, rfl⟩
set_option maxRecDepth 100000 in
theorem kw_Pool_countHeldBy : kb_vP ke_Pool_countHeldBy := ⟨kb_all_in (List.mem_of_getElem? (i := 40) rfl) rfl, kb_all_in (List.mem_of_getElem? (i := 224) rfl) rfl, by decide +kernel, by decide +kernel, by decide +kernel, by decide +kernel⟩
set_option maxRecDepth 100000 in
theorem kj_Pool_countHeldBy : kb_iP ke_Pool_countHeldBy := ⟨kw_Pool_countHeldBy, kb_all_in (List.mem_of_getElem? (i := 222) rfl) rfl, kb_all_in (List.mem_of_getElem? (i := 223) rfl) rfl, by decide +kernel, _, _, rfl⟩
set_option maxRecDepth 100000 in
theorem kd_Pool_hasFullShare : kb_mP ke_Pool_hasFullShare := ⟨by decide +kernel, rfl⟩
set_option maxRecDepth 100000 in
theorem kw_Pool_hasFullShare : kb_vP ke_Pool_hasFullShare := ⟨kb_all_in (List.mem_of_getElem? (i := 40) rfl) rfl, kb_all_in (List.mem_of_getElem? (i := 220) rfl) rfl, by decide +kernel, by decide +kernel, by decide +kernel, by decide +kernel⟩
set_option maxRecDepth 100000 in
theorem kj_Pool_hasFullShare : kb_iP ke_Pool_hasFullShare := ⟨kw_Pool_hasFullShare, kb_all_in (List.mem_of_getElem? (i := 218) rfl) rfl, kb_all_in (List.mem_of_getElem? (i := 219) rfl) rfl, by decide +kernel, _, _, rfl⟩
set_option maxRecDepth 100000 in
theorem kd_Pool_wordAt : kb_mP ke_Pool_wordAt := ⟨by decide +kernel, rfl⟩
set_option maxRecDepth 100000 in
theorem kw_Pool_wordAt : kb_vP ke_Pool_wordAt := ⟨kb_all_in (List.mem_of_getElem? (i := 40) rfl) rfl, kb_all_in (List.mem_of_getElem? (i := 357) rfl) rfl, by decide +kernel, by decide +kernel, by decide +kernel, by decide +kernel⟩
set_option maxRecDepth 100000 in
theorem kj_Pool_wordAt : kb_iP ke_Pool_wordAt := ⟨kw_Pool_wordAt, kb_all_in (List.mem_of_getElem? (i := 355) rfl) rfl, kb_all_in (List.mem_of_getElem? (i := 356) rfl) rfl, by decide +kernel, _, _, rfl⟩
set_option maxRecDepth 100000 in
theorem kd_Pool_setWord : kb_mP ke_Pool_setWord := ⟨by decide +kernel, rfl⟩
set_option maxRecDepth 100000 in
theorem kw_Pool_setWord : kb_vP ke_Pool_setWord := ⟨kb_all_in (List.mem_of_getElem? (i := 40) rfl) rfl, kb_all_in (List.mem_of_getElem? (i := 333) rfl) rfl, by decide +kernel, by decide +kernel, by decide +kernel, by decide +kernel⟩
set_option maxRecDepth 100000 in
theorem kj_Pool_setWord : kb_iP ke_Pool_setWord := ⟨kw_Pool_setWord, kb_all_in (List.mem_of_getElem? (i := 331) rfl) rfl, kb_all_in (List.mem_of_getElem? (i := 332) rfl) rfl, by decide +kernel, _, _, rfl⟩
set_option maxRecDepth 100000 in
theorem kd_Pool_takeWordsFrom : kb_mP ke_Pool_takeWordsFrom := ⟨by decide +kernel, rfl⟩
set_option maxRecDepth 100000 in
theorem kw_Pool_takeWordsFrom : kb_vP ke_Pool_takeWordsFrom := ⟨kb_all_in (List.mem_of_getElem? (i := 40) rfl) rfl, kb_all_in (List.mem_of_getElem? (i := 314) rfl) rfl, by decide +kernel, by decide +kernel, by decide +kernel, by decide +kernel⟩
set_option maxRecDepth 100000 in
theorem kj_Pool_takeWordsFrom : kb_iP ke_Pool_takeWordsFrom := ⟨kw_Pool_takeWordsFrom, kb_all_in (List.mem_of_getElem? (i := 312) rfl) rfl, kb_all_in (List.mem_of_getElem? (i := 313) rfl) rfl, by decide +kernel, _, _, rfl⟩
set_option maxRecDepth 100000 in
theorem kd_Pool_hasResource : kb_mP ke_Pool_hasResource := ⟨by decide +kernel, rfl⟩
set_option maxRecDepth 100000 in
theorem kw_Pool_hasResource : kb_vP ke_Pool_hasResource := ⟨kb_all_in (List.mem_of_getElem? (i := 40) rfl) rfl, kb_all_in (List.mem_of_getElem? (i := 318) rfl) rfl, by decide +kernel, by decide +kernel, by decide +kernel, by decide +kernel⟩
set_option maxRecDepth 100000 in
theorem kj_Pool_hasResource : kb_iP ke_Pool_hasResource := ⟨kw_Pool_hasResource, kb_all_in (List.mem_of_getElem? (i := 317) rfl) rfl, kb_all_in (List.mem_of_getElem? (i := 12) rfl) rfl, by decide +kernel, _, _, rfl⟩
set_option maxRecDepth 100000 in
theorem kd_Pool_hasWord : kb_mP ke_Pool_hasWord := ⟨by decide +kernel, rfl⟩
set_option maxRecDepth 100000 in
theorem kw_Pool_hasWord : kb_vP ke_Pool_hasWord := ⟨kb_all_in (List.mem_of_getElem? (i := 40) rfl) rfl, kb_all_in (List.mem_of_getElem? (i := 337) rfl) rfl, by decide +kernel, by decide +kernel, by decide +kernel, by decide +kernel⟩
set_option maxRecDepth 100000 in
theorem kj_Pool_hasWord : kb_iP ke_Pool_hasWord := ⟨kw_Pool_hasWord, kb_all_in (List.mem_of_getElem? (i := 336) rfl) rfl, kb_all_in (List.mem_of_getElem? (i := 15) rfl) rfl, by decide +kernel, _, _, rfl⟩
set_option maxRecDepth 100000 in
theorem kd_Slot_isEmpty : kb_mP ke_Slot_isEmpty := ⟨by decide +kernel, rfl⟩
set_option maxRecDepth 100000 in
theorem kw_Slot_isEmpty : kb_vP ke_Slot_isEmpty := ⟨kb_all_in (List.mem_of_getElem? (i := 44) rfl) rfl, kb_all_in (List.mem_of_getElem? (i := 302) rfl) rfl, by decide +kernel, by decide +kernel, by decide +kernel, by decide +kernel⟩
set_option maxRecDepth 100000 in
theorem kj_Slot_isEmpty : kb_iP ke_Slot_isEmpty := ⟨kw_Slot_isEmpty, kb_all_in (List.mem_of_getElem? (i := 300) rfl) rfl, kb_all_in (List.mem_of_getElem? (i := 301) rfl) rfl, by decide +kernel, _, _, rfl⟩
set_option maxRecDepth 100000 in
theorem kb_mall : ∀ e ∈ kb_mt, kb_mP e := List.forall_mem_cons.mpr ⟨kd_BK_append, List.forall_mem_cons.mpr ⟨kd_BK_write, List.forall_mem_cons.mpr ⟨kd_BK_read, List.forall_mem_cons.mpr ⟨kd_BK_length, List.forall_mem_cons.mpr ⟨kd_BK_erase, List.forall_mem_cons.mpr ⟨kd_BK_sync, List.forall_mem_cons.mpr ⟨kd_BK_squeeze, List.forall_mem_cons.mpr ⟨kd_BK_bind, List.forall_mem_cons.mpr ⟨kd_BK_put, List.forall_mem_cons.mpr ⟨kd_BK_get, List.forall_mem_cons.mpr ⟨kd_BK_copy, List.forall_mem_cons.mpr ⟨kd_BK_release, List.forall_mem_cons.mpr ⟨kd_BK_ask, List.forall_mem_cons.mpr ⟨kd_BK_state, List.forall_mem_cons.mpr ⟨kd_BK_pass, List.forall_mem_cons.mpr ⟨kd_BK_time, List.forall_mem_cons.mpr ⟨kd_BK_free, List.forall_mem_cons.mpr ⟨kd_BK_held, List.forall_mem_cons.mpr ⟨kd_BK_losses, List.forall_mem_cons.mpr ⟨kd_BK_transfers, List.forall_mem_cons.mpr ⟨kd_BK_applicationOf, List.forall_mem_cons.mpr ⟨kd_BK_isEnvironment, List.forall_mem_cons.mpr ⟨kd_Model_within, List.forall_mem_cons.mpr ⟨kd_Model_blocksOf, List.forall_mem_cons.mpr ⟨kd_Model_liveOf, List.forall_mem_cons.mpr ⟨kd_Model_count, List.forall_mem_cons.mpr ⟨kd_Model_free, List.forall_mem_cons.mpr ⟨kd_Model_held, List.forall_mem_cons.mpr ⟨kd_Model_moveTo, List.forall_mem_cons.mpr ⟨kd_Model_earliest, List.forall_mem_cons.mpr ⟨kd_Model_mark, List.forall_mem_cons.mpr ⟨kd_Model_wish, List.forall_mem_cons.mpr ⟨kd_Model_claim, List.forall_mem_cons.mpr ⟨kd_Model_noFile, List.forall_mem_cons.mpr ⟨kd_Model_noWord, List.forall_mem_cons.mpr ⟨kd_Model_find, List.forall_mem_cons.mpr ⟨kd_Model_remove, List.forall_mem_cons.mpr ⟨kd_Model_add, List.forall_mem_cons.mpr ⟨kd_Model_storeAt, List.forall_mem_cons.mpr ⟨kd_Model_open, List.forall_mem_cons.mpr ⟨kd_Model_change, List.forall_mem_cons.mpr ⟨kd_Model_append, List.forall_mem_cons.mpr ⟨kd_Model_write, List.forall_mem_cons.mpr ⟨kd_Model_read, List.forall_mem_cons.mpr ⟨kd_Model_length, List.forall_mem_cons.mpr ⟨kd_Model_erase, List.forall_mem_cons.mpr ⟨kd_Model_sync, List.forall_mem_cons.mpr ⟨kd_Model_squeeze, List.forall_mem_cons.mpr ⟨kd_Model_bind, List.forall_mem_cons.mpr ⟨kd_Model_live, List.forall_mem_cons.mpr ⟨kd_Model_put, List.forall_mem_cons.mpr ⟨kd_Model_get, List.forall_mem_cons.mpr ⟨kd_Model_copy, List.forall_mem_cons.mpr ⟨kd_Model_release, List.forall_mem_cons.mpr ⟨kd_Model_ask, List.forall_mem_cons.mpr ⟨kd_Model_state, List.forall_mem_cons.mpr ⟨kd_Model_pass, List.forall_mem_cons.mpr ⟨kd_Model_time, List.forall_mem_cons.mpr ⟨kd_Model_losses, List.forall_mem_cons.mpr ⟨kd_Model_transfers, List.forall_mem_cons.mpr ⟨kd_App_appendWord, List.forall_mem_cons.mpr ⟨kd_App_writeWord, List.forall_mem_cons.mpr ⟨kd_App_readWord, List.forall_mem_cons.mpr ⟨kd_App_lengthOf, List.forall_mem_cons.mpr ⟨kd_App_eraseFile, List.forall_mem_cons.mpr ⟨kd_App_storeAllChanged, List.forall_mem_cons.mpr ⟨kd_App_giveUpOldestFrame, List.forall_mem_cons.mpr ⟨kd_App_isFile, List.forall_mem_cons.mpr ⟨kd_App_makeRoomForWord, List.forall_mem_cons.mpr ⟨kd_App_changeWord, List.forall_mem_cons.mpr ⟨kd_App_openPartOf, List.forall_mem_cons.mpr ⟨kd_App_slotFor, List.forall_mem_cons.mpr ⟨kd_App_slotOf, List.forall_mem_cons.mpr ⟨kd_App_oldestSlot, List.forall_mem_cons.mpr ⟨kd_App_load, List.forall_mem_cons.mpr ⟨kd_App_storeIfChanged, List.forall_mem_cons.mpr ⟨kd_App_blockOf, List.forall_mem_cons.mpr ⟨kd_App_dropPart, List.forall_mem_cons.mpr ⟨kd_App_giveFrameBack, List.forall_mem_cons.mpr ⟨kd_Guest_hasAllTickets, List.forall_mem_cons.mpr ⟨kd_Guest_addTicket, List.forall_mem_cons.mpr ⟨kd_Guest_stateOf, List.forall_mem_cons.mpr ⟨kd_Guest_putWord, List.forall_mem_cons.mpr ⟨kd_Guest_getWord, List.forall_mem_cons.mpr ⟨kd_Guest_copyWords, List.forall_mem_cons.mpr ⟨kd_Guest_giveBack, List.forall_mem_cons.mpr ⟨kd_Guest_askFor, List.forall_mem_cons.mpr ⟨kd_Guest_askForLastOf, List.forall_mem_cons.mpr ⟨kd_Guest_earliestDeadline, List.forall_mem_cons.mpr ⟨kd_Guest_loseAllDue, List.forall_mem_cons.mpr ⟨kd_Guest_isLive, List.forall_mem_cons.mpr ⟨kd_Guest_isLiveOf, List.forall_mem_cons.mpr ⟨kd_Guest_poolOf, List.forall_mem_cons.mpr ⟨kd_Kernel_poolOf, List.forall_mem_cons.mpr ⟨kd_Kernel_guestOf, List.forall_mem_cons.mpr ⟨kd_Kernel_bindForGuest, List.forall_mem_cons.mpr ⟨kd_Kernel_bindForApplication, List.forall_mem_cons.mpr ⟨kd_Kernel_moveTimeTo, List.forall_mem_cons.mpr ⟨kd_Kernel_claim, List.forall_mem_cons.mpr ⟨kd_Kernel_askRicherGuest, List.forall_mem_cons.mpr ⟨kd_Kernel_earliestDeadline, List.forall_mem_cons.mpr ⟨kd_Pool_bindFreeOne, List.forall_mem_cons.mpr ⟨kd_Pool_endBinding, List.forall_mem_cons.mpr ⟨kd_Pool_countFree, List.forall_mem_cons.mpr ⟨kd_Pool_countHeldBy, List.forall_mem_cons.mpr ⟨kd_Pool_hasFullShare, List.forall_mem_cons.mpr ⟨kd_Pool_wordAt, List.forall_mem_cons.mpr ⟨kd_Pool_setWord, List.forall_mem_cons.mpr ⟨kd_Pool_takeWordsFrom, List.forall_mem_cons.mpr ⟨kd_Pool_hasResource, List.forall_mem_cons.mpr ⟨kd_Pool_hasWord, List.forall_mem_cons.mpr ⟨kd_Slot_isEmpty, fun _ h => absurd h List.not_mem_nil⟩⟩⟩⟩⟩⟩⟩⟩⟩⟩⟩⟩⟩⟩⟩⟩⟩⟩⟩⟩⟩⟩⟩⟩⟩⟩⟩⟩⟩⟩⟩⟩⟩⟩⟩⟩⟩⟩⟩⟩⟩⟩⟩⟩⟩⟩⟩⟩⟩⟩⟩⟩⟩⟩⟩⟩⟩⟩⟩⟩⟩⟩⟩⟩⟩⟩⟩⟩⟩⟩⟩⟩⟩⟩⟩⟩⟩⟩⟩⟩⟩⟩⟩⟩⟩⟩⟩⟩⟩⟩⟩⟩⟩⟩⟩⟩⟩⟩⟩⟩⟩⟩⟩⟩⟩⟩⟩⟩⟩⟩⟩⟩
theorem kb_mP_at (y : Nat) : kb_mP (kb_me y) := by
  unfold kb_me
  cases h : kb_mt[y]? with
  | none => exact ⟨rfl, rfl⟩
  | some e => exact kb_mall e (List.mem_of_getElem? h)
theorem kb_dec {y pc : Nat} {i : Jvm.ClassFile.Instr} (h : kb_ft y pc = some i) : decode (kb_by y) pc = .ok (i, kb_len i) := by
  have h1 := List.all_eq_true.mp (kb_mP_at y).1 _ (kb_lk_mem h)
  exact of_decide_eq_true h1
theorem kb_cls (y : Nat) : (kb_nm y).cls = kb_cn (kb_o y) := (kb_mP_at y).2
def kb_flL : List (Nat × List (Nat × Nat × Nat × Nat)) := [(0, [(12, 0, 0, 0), (18, 0, 1, 0), (79, 1, 0, 1), (107, 3, 0, 1), (110, 4, 1, 1), (113, 4, 0, 1)]), (1, [(14, 1, 1, 0), (20, 1, 2, 0), (28, 1, 3, 0), (32, 1, 4, 0), (72, 1, 0, 1)]), (2, [(9, 2, 0, 0), (15, 2, 1, 0), (19, 2, 2, 0)]), (3, [(9, 3, 3, 0), (15, 3, 4, 0), (19, 3, 5, 0), (22, 3, 6, 0), (25, 3, 1, 0), (29, 3, 2, 0), (32, 3, 7, 1), (75, 3, 0, 1)]), (4, [(9, 4, 4, 0), (15, 4, 5, 0), (20, 4, 6, 0), (24, 4, 2, 0), (28, 4, 3, 0), (54, 1, 1, 0), (60, 5, 0, 1), (73, 4, 1, 1), (87, 1, 2, 0), (97, 5, 3, 2), (113, 5, 1, 1), (120, 4, 7, 1), (123, 5, 2, 1), (137, 4, 0, 1)]), (5, [(9, 5, 0, 1)]), (6, [(7, 6, 3, 0), (13, 6, 4, 0), (16, 6, 5, 0), (19, 6, 6, 0), (23, 6, 7, 0), (26, 6, 8, 0), (29, 6, 9, 0), (32, 6, 10, 0), (35, 6, 11, 0), (38, 6, 12, 0), (41, 6, 13, 0), (59, 6, 0, 1), (85, 6, 1, 1), (106, 6, 2, 1)])]
def kb_fl (y x : Nat) : Option (Nat × Nat × Nat) := match kb_lk kb_flL (kb_o y) with
  | some l => kb_lk l x
  | none => none
def kb_flP (o : Nat) (q : Nat × Nat × Nat × Nat) : Prop := ∃ N T n, kb_cl[q.2.1]? = some (N, T, n) ∧ q.2.2.1 < n ∧ (∀ w ∈ u_ws N T n, w ∈ kb_all) ∧ Cond.fieldLink (kb_cn o) q.1 (T q.2.2.1).1 (T q.2.2.1).2.1 (T q.2.2.1).2.2.1 ∈ kb_all ∧ (q.2.2.2 = 1 → (T q.2.2.1).2.2.2 = false ∧ parseFieldDescriptor (T q.2.2.1).2.2.1 = some .int) ∧ (q.2.2.2 = 2 → (T q.2.2.1).2.2.2 = false ∧ parseFieldDescriptor (T q.2.2.1).2.2.1 = some .boolean)
set_option maxRecDepth 100000 in
theorem kf_0_12 : kb_flP 0 (12, 0, 0, 0) := ⟨R_BK, F_BK, 2, rfl, by decide, u_BK, kb_all_in (List.mem_of_getElem? (i := 191) rfl) rfl, fun h => absurd h (by decide), fun h => absurd h (by decide)⟩
set_option maxRecDepth 100000 in
theorem kf_0_18 : kb_flP 0 (18, 0, 1, 0) := ⟨R_BK, F_BK, 2, rfl, by decide, u_BK, kb_all_in (List.mem_of_getElem? (i := 192) rfl) rfl, fun h => absurd h (by decide), fun h => absurd h (by decide)⟩
set_option maxRecDepth 100000 in
theorem kf_0_79 : kb_flP 0 (79, 1, 0, 1) := ⟨R_Kernel, F_Kernel, 5, rfl, by decide, u_Kernel, kb_all_in (List.mem_of_getElem? (i := 116) rfl) rfl, fun _ => ⟨rfl, by decide +kernel⟩, fun h => absurd h (by decide)⟩
set_option maxRecDepth 100000 in
theorem kf_0_107 : kb_flP 0 (107, 3, 0, 1) := ⟨R_Guest, F_Guest, 8, rfl, by decide, u_Guest, kb_all_in (List.mem_of_getElem? (i := 89) rfl) rfl, fun _ => ⟨rfl, by decide +kernel⟩, fun h => absurd h (by decide)⟩
set_option maxRecDepth 100000 in
theorem kf_0_110 : kb_flP 0 (110, 4, 1, 1) := ⟨R_App, F_App, 8, rfl, by decide, u_App, kb_all_in (List.mem_of_getElem? (i := 167) rfl) rfl, fun _ => ⟨rfl, by decide +kernel⟩, fun h => absurd h (by decide)⟩
set_option maxRecDepth 100000 in
theorem kf_0_113 : kb_flP 0 (113, 4, 0, 1) := ⟨R_App, F_App, 8, rfl, by decide, u_App, kb_all_in (List.mem_of_getElem? (i := 165) rfl) rfl, fun _ => ⟨rfl, by decide +kernel⟩, fun h => absurd h (by decide)⟩
set_option maxRecDepth 100000 in
theorem kf_1_14 : kb_flP 1 (14, 1, 1, 0) := ⟨R_Kernel, F_Kernel, 5, rfl, by decide, u_Kernel, kb_all_in (List.mem_of_getElem? (i := 117) rfl) rfl, fun h => absurd h (by decide), fun h => absurd h (by decide)⟩
set_option maxRecDepth 100000 in
theorem kf_1_20 : kb_flP 1 (20, 1, 2, 0) := ⟨R_Kernel, F_Kernel, 5, rfl, by decide, u_Kernel, kb_all_in (List.mem_of_getElem? (i := 119) rfl) rfl, fun h => absurd h (by decide), fun h => absurd h (by decide)⟩
set_option maxRecDepth 100000 in
theorem kf_1_28 : kb_flP 1 (28, 1, 3, 0) := ⟨R_Kernel, F_Kernel, 5, rfl, by decide, u_Kernel, kb_all_in (List.mem_of_getElem? (i := 121) rfl) rfl, fun h => absurd h (by decide), fun h => absurd h (by decide)⟩
set_option maxRecDepth 100000 in
theorem kf_1_32 : kb_flP 1 (32, 1, 4, 0) := ⟨R_Kernel, F_Kernel, 5, rfl, by decide, u_Kernel, kb_all_in (List.mem_of_getElem? (i := 122) rfl) rfl, fun h => absurd h (by decide), fun h => absurd h (by decide)⟩
set_option maxRecDepth 100000 in
theorem kf_1_72 : kb_flP 1 (72, 1, 0, 1) := ⟨R_Kernel, F_Kernel, 5, rfl, by decide, u_Kernel, kb_all_in (List.mem_of_getElem? (i := 115) rfl) rfl, fun _ => ⟨rfl, by decide +kernel⟩, fun h => absurd h (by decide)⟩
set_option maxRecDepth 100000 in
theorem kf_2_9 : kb_flP 2 (9, 2, 0, 0) := ⟨R_Pool, F_Pool, 3, rfl, by decide, u_Pool, kb_all_in (List.mem_of_getElem? (i := 71) rfl) rfl, fun h => absurd h (by decide), fun h => absurd h (by decide)⟩
set_option maxRecDepth 100000 in
theorem kf_2_15 : kb_flP 2 (15, 2, 1, 0) := ⟨R_Pool, F_Pool, 3, rfl, by decide, u_Pool, kb_all_in (List.mem_of_getElem? (i := 72) rfl) rfl, fun h => absurd h (by decide), fun h => absurd h (by decide)⟩
set_option maxRecDepth 100000 in
theorem kf_2_19 : kb_flP 2 (19, 2, 2, 0) := ⟨R_Pool, F_Pool, 3, rfl, by decide, u_Pool, kb_all_in (List.mem_of_getElem? (i := 73) rfl) rfl, fun h => absurd h (by decide), fun h => absurd h (by decide)⟩
set_option maxRecDepth 100000 in
theorem kf_3_9 : kb_flP 3 (9, 3, 3, 0) := ⟨R_Guest, F_Guest, 8, rfl, by decide, u_Guest, kb_all_in (List.mem_of_getElem? (i := 92) rfl) rfl, fun h => absurd h (by decide), fun h => absurd h (by decide)⟩
set_option maxRecDepth 100000 in
theorem kf_3_15 : kb_flP 3 (15, 3, 4, 0) := ⟨R_Guest, F_Guest, 8, rfl, by decide, u_Guest, kb_all_in (List.mem_of_getElem? (i := 93) rfl) rfl, fun h => absurd h (by decide), fun h => absurd h (by decide)⟩
set_option maxRecDepth 100000 in
theorem kf_3_19 : kb_flP 3 (19, 3, 5, 0) := ⟨R_Guest, F_Guest, 8, rfl, by decide, u_Guest, kb_all_in (List.mem_of_getElem? (i := 94) rfl) rfl, fun h => absurd h (by decide), fun h => absurd h (by decide)⟩
set_option maxRecDepth 100000 in
theorem kf_3_22 : kb_flP 3 (22, 3, 6, 0) := ⟨R_Guest, F_Guest, 8, rfl, by decide, u_Guest, kb_all_in (List.mem_of_getElem? (i := 95) rfl) rfl, fun h => absurd h (by decide), fun h => absurd h (by decide)⟩
set_option maxRecDepth 100000 in
theorem kf_3_25 : kb_flP 3 (25, 3, 1, 0) := ⟨R_Guest, F_Guest, 8, rfl, by decide, u_Guest, kb_all_in (List.mem_of_getElem? (i := 90) rfl) rfl, fun h => absurd h (by decide), fun h => absurd h (by decide)⟩
set_option maxRecDepth 100000 in
theorem kf_3_29 : kb_flP 3 (29, 3, 2, 0) := ⟨R_Guest, F_Guest, 8, rfl, by decide, u_Guest, kb_all_in (List.mem_of_getElem? (i := 91) rfl) rfl, fun h => absurd h (by decide), fun h => absurd h (by decide)⟩
set_option maxRecDepth 100000 in
theorem kf_3_32 : kb_flP 3 (32, 3, 7, 1) := ⟨R_Guest, F_Guest, 8, rfl, by decide, u_Guest, kb_all_in (List.mem_of_getElem? (i := 96) rfl) rfl, fun _ => ⟨rfl, by decide +kernel⟩, fun h => absurd h (by decide)⟩
set_option maxRecDepth 100000 in
theorem kf_3_75 : kb_flP 3 (75, 3, 0, 1) := ⟨R_Guest, F_Guest, 8, rfl, by decide, u_Guest, kb_all_in (List.mem_of_getElem? (i := 88) rfl) rfl, fun _ => ⟨rfl, by decide +kernel⟩, fun h => absurd h (by decide)⟩
set_option maxRecDepth 100000 in
theorem kf_4_9 : kb_flP 4 (9, 4, 4, 0) := ⟨R_App, F_App, 8, rfl, by decide, u_App, kb_all_in (List.mem_of_getElem? (i := 170) rfl) rfl, fun h => absurd h (by decide), fun h => absurd h (by decide)⟩
set_option maxRecDepth 100000 in
theorem kf_4_15 : kb_flP 4 (15, 4, 5, 0) := ⟨R_App, F_App, 8, rfl, by decide, u_App, kb_all_in (List.mem_of_getElem? (i := 171) rfl) rfl, fun h => absurd h (by decide), fun h => absurd h (by decide)⟩
set_option maxRecDepth 100000 in
theorem kf_4_20 : kb_flP 4 (20, 4, 6, 0) := ⟨R_App, F_App, 8, rfl, by decide, u_App, kb_all_in (List.mem_of_getElem? (i := 172) rfl) rfl, fun h => absurd h (by decide), fun h => absurd h (by decide)⟩
set_option maxRecDepth 100000 in
theorem kf_4_24 : kb_flP 4 (24, 4, 2, 0) := ⟨R_App, F_App, 8, rfl, by decide, u_App, kb_all_in (List.mem_of_getElem? (i := 168) rfl) rfl, fun h => absurd h (by decide), fun h => absurd h (by decide)⟩
set_option maxRecDepth 100000 in
theorem kf_4_28 : kb_flP 4 (28, 4, 3, 0) := ⟨R_App, F_App, 8, rfl, by decide, u_App, kb_all_in (List.mem_of_getElem? (i := 169) rfl) rfl, fun h => absurd h (by decide), fun h => absurd h (by decide)⟩
set_option maxRecDepth 100000 in
theorem kf_4_54 : kb_flP 4 (54, 1, 1, 0) := ⟨R_Kernel, F_Kernel, 5, rfl, by decide, u_Kernel, kb_all_in (List.mem_of_getElem? (i := 118) rfl) rfl, fun h => absurd h (by decide), fun h => absurd h (by decide)⟩
set_option maxRecDepth 100000 in
theorem kf_4_60 : kb_flP 4 (60, 5, 0, 1) := ⟨R_Slot, F_Slot, 4, rfl, by decide, u_Slot, kb_all_in (List.mem_of_getElem? (i := 150) rfl) rfl, fun _ => ⟨rfl, by decide +kernel⟩, fun h => absurd h (by decide)⟩
set_option maxRecDepth 100000 in
theorem kf_4_73 : kb_flP 4 (73, 4, 1, 1) := ⟨R_App, F_App, 8, rfl, by decide, u_App, kb_all_in (List.mem_of_getElem? (i := 166) rfl) rfl, fun _ => ⟨rfl, by decide +kernel⟩, fun h => absurd h (by decide)⟩
set_option maxRecDepth 100000 in
theorem kf_4_87 : kb_flP 4 (87, 1, 2, 0) := ⟨R_Kernel, F_Kernel, 5, rfl, by decide, u_Kernel, kb_all_in (List.mem_of_getElem? (i := 120) rfl) rfl, fun h => absurd h (by decide), fun h => absurd h (by decide)⟩
set_option maxRecDepth 100000 in
theorem kf_4_97 : kb_flP 4 (97, 5, 3, 2) := ⟨R_Slot, F_Slot, 4, rfl, by decide, u_Slot, kb_all_in (List.mem_of_getElem? (i := 154) rfl) rfl, fun h => absurd h (by decide), fun _ => ⟨rfl, by decide +kernel⟩⟩
set_option maxRecDepth 100000 in
theorem kf_4_113 : kb_flP 4 (113, 5, 1, 1) := ⟨R_Slot, F_Slot, 4, rfl, by decide, u_Slot, kb_all_in (List.mem_of_getElem? (i := 152) rfl) rfl, fun _ => ⟨rfl, by decide +kernel⟩, fun h => absurd h (by decide)⟩
set_option maxRecDepth 100000 in
theorem kf_4_120 : kb_flP 4 (120, 4, 7, 1) := ⟨R_App, F_App, 8, rfl, by decide, u_App, kb_all_in (List.mem_of_getElem? (i := 173) rfl) rfl, fun _ => ⟨rfl, by decide +kernel⟩, fun h => absurd h (by decide)⟩
set_option maxRecDepth 100000 in
theorem kf_4_123 : kb_flP 4 (123, 5, 2, 1) := ⟨R_Slot, F_Slot, 4, rfl, by decide, u_Slot, kb_all_in (List.mem_of_getElem? (i := 153) rfl) rfl, fun _ => ⟨rfl, by decide +kernel⟩, fun h => absurd h (by decide)⟩
set_option maxRecDepth 100000 in
theorem kf_4_137 : kb_flP 4 (137, 4, 0, 1) := ⟨R_App, F_App, 8, rfl, by decide, u_App, kb_all_in (List.mem_of_getElem? (i := 164) rfl) rfl, fun _ => ⟨rfl, by decide +kernel⟩, fun h => absurd h (by decide)⟩
set_option maxRecDepth 100000 in
theorem kf_5_9 : kb_flP 5 (9, 5, 0, 1) := ⟨R_Slot, F_Slot, 4, rfl, by decide, u_Slot, kb_all_in (List.mem_of_getElem? (i := 149) rfl) rfl, fun _ => ⟨rfl, by decide +kernel⟩, fun h => absurd h (by decide)⟩
set_option maxRecDepth 100000 in
theorem kf_6_7 : kb_flP 6 (7, 6, 3, 0) := ⟨R_Model, F_Model, 14, rfl, by decide, u_Model, kb_all_in (List.mem_of_getElem? (i := 524) rfl) rfl, fun h => absurd h (by decide), fun h => absurd h (by decide)⟩
set_option maxRecDepth 100000 in
theorem kf_6_13 : kb_flP 6 (13, 6, 4, 0) := ⟨R_Model, F_Model, 14, rfl, by decide, u_Model, kb_all_in (List.mem_of_getElem? (i := 525) rfl) rfl, fun h => absurd h (by decide), fun h => absurd h (by decide)⟩
set_option maxRecDepth 100000 in
theorem kf_6_16 : kb_flP 6 (16, 6, 5, 0) := ⟨R_Model, F_Model, 14, rfl, by decide, u_Model, kb_all_in (List.mem_of_getElem? (i := 526) rfl) rfl, fun h => absurd h (by decide), fun h => absurd h (by decide)⟩
set_option maxRecDepth 100000 in
theorem kf_6_19 : kb_flP 6 (19, 6, 6, 0) := ⟨R_Model, F_Model, 14, rfl, by decide, u_Model, kb_all_in (List.mem_of_getElem? (i := 527) rfl) rfl, fun h => absurd h (by decide), fun h => absurd h (by decide)⟩
set_option maxRecDepth 100000 in
theorem kf_6_23 : kb_flP 6 (23, 6, 7, 0) := ⟨R_Model, F_Model, 14, rfl, by decide, u_Model, kb_all_in (List.mem_of_getElem? (i := 528) rfl) rfl, fun h => absurd h (by decide), fun h => absurd h (by decide)⟩
set_option maxRecDepth 100000 in
theorem kf_6_26 : kb_flP 6 (26, 6, 8, 0) := ⟨R_Model, F_Model, 14, rfl, by decide, u_Model, kb_all_in (List.mem_of_getElem? (i := 529) rfl) rfl, fun h => absurd h (by decide), fun h => absurd h (by decide)⟩
set_option maxRecDepth 100000 in
theorem kf_6_29 : kb_flP 6 (29, 6, 9, 0) := ⟨R_Model, F_Model, 14, rfl, by decide, u_Model, kb_all_in (List.mem_of_getElem? (i := 530) rfl) rfl, fun h => absurd h (by decide), fun h => absurd h (by decide)⟩
set_option maxRecDepth 100000 in
theorem kf_6_32 : kb_flP 6 (32, 6, 10, 0) := ⟨R_Model, F_Model, 14, rfl, by decide, u_Model, kb_all_in (List.mem_of_getElem? (i := 531) rfl) rfl, fun h => absurd h (by decide), fun h => absurd h (by decide)⟩
set_option maxRecDepth 100000 in
theorem kf_6_35 : kb_flP 6 (35, 6, 11, 0) := ⟨R_Model, F_Model, 14, rfl, by decide, u_Model, kb_all_in (List.mem_of_getElem? (i := 532) rfl) rfl, fun h => absurd h (by decide), fun h => absurd h (by decide)⟩
set_option maxRecDepth 100000 in
theorem kf_6_38 : kb_flP 6 (38, 6, 12, 0) := ⟨R_Model, F_Model, 14, rfl, by decide, u_Model, kb_all_in (List.mem_of_getElem? (i := 533) rfl) rfl, fun h => absurd h (by decide), fun h => absurd h (by decide)⟩
set_option maxRecDepth 100000 in
theorem kf_6_41 : kb_flP 6 (41, 6, 13, 0) := ⟨R_Model, F_Model, 14, rfl, by decide, u_Model, kb_all_in (List.mem_of_getElem? (i := 534) rfl) rfl, fun h => absurd h (by decide), fun h => absurd h (by decide)⟩
set_option maxRecDepth 100000 in
theorem kf_6_59 : kb_flP 6 (59, 6, 0, 1) := ⟨R_Model, F_Model, 14, rfl, by decide, u_Model, kb_all_in (List.mem_of_getElem? (i := 521) rfl) rfl, fun _ => ⟨rfl, by decide +kernel⟩, fun h => absurd h (by decide)⟩
set_option maxRecDepth 100000 in
theorem kf_6_85 : kb_flP 6 (85, 6, 1, 1) := ⟨R_Model, F_Model, 14, rfl, by decide, u_Model, kb_all_in (List.mem_of_getElem? (i := 522) rfl) rfl, fun _ => ⟨rfl, by decide +kernel⟩, fun h => absurd h (by decide)⟩
set_option maxRecDepth 100000 in
theorem kf_6_106 : kb_flP 6 (106, 6, 2, 1) := ⟨R_Model, F_Model, 14, rfl, by decide, u_Model, kb_all_in (List.mem_of_getElem? (i := 523) rfl) rfl, fun _ => ⟨rfl, by decide +kernel⟩, fun h => absurd h (by decide)⟩
set_option maxRecDepth 100000 in
theorem kb_flall : ∀ q ∈ kb_flL, ∀ r ∈ q.2, kb_flP q.1 r := List.forall_mem_cons.mpr ⟨List.forall_mem_cons.mpr ⟨kf_0_12, List.forall_mem_cons.mpr ⟨kf_0_18, List.forall_mem_cons.mpr ⟨kf_0_79, List.forall_mem_cons.mpr ⟨kf_0_107, List.forall_mem_cons.mpr ⟨kf_0_110, List.forall_mem_cons.mpr ⟨kf_0_113, fun _ h => absurd h List.not_mem_nil⟩⟩⟩⟩⟩⟩, List.forall_mem_cons.mpr ⟨List.forall_mem_cons.mpr ⟨kf_1_14, List.forall_mem_cons.mpr ⟨kf_1_20, List.forall_mem_cons.mpr ⟨kf_1_28, List.forall_mem_cons.mpr ⟨kf_1_32, List.forall_mem_cons.mpr ⟨kf_1_72, fun _ h => absurd h List.not_mem_nil⟩⟩⟩⟩⟩, List.forall_mem_cons.mpr ⟨List.forall_mem_cons.mpr ⟨kf_2_9, List.forall_mem_cons.mpr ⟨kf_2_15, List.forall_mem_cons.mpr ⟨kf_2_19, fun _ h => absurd h List.not_mem_nil⟩⟩⟩, List.forall_mem_cons.mpr ⟨List.forall_mem_cons.mpr ⟨kf_3_9, List.forall_mem_cons.mpr ⟨kf_3_15, List.forall_mem_cons.mpr ⟨kf_3_19, List.forall_mem_cons.mpr ⟨kf_3_22, List.forall_mem_cons.mpr ⟨kf_3_25, List.forall_mem_cons.mpr ⟨kf_3_29, List.forall_mem_cons.mpr ⟨kf_3_32, List.forall_mem_cons.mpr ⟨kf_3_75, fun _ h => absurd h List.not_mem_nil⟩⟩⟩⟩⟩⟩⟩⟩, List.forall_mem_cons.mpr ⟨List.forall_mem_cons.mpr ⟨kf_4_9, List.forall_mem_cons.mpr ⟨kf_4_15, List.forall_mem_cons.mpr ⟨kf_4_20, List.forall_mem_cons.mpr ⟨kf_4_24, List.forall_mem_cons.mpr ⟨kf_4_28, List.forall_mem_cons.mpr ⟨kf_4_54, List.forall_mem_cons.mpr ⟨kf_4_60, List.forall_mem_cons.mpr ⟨kf_4_73, List.forall_mem_cons.mpr ⟨kf_4_87, List.forall_mem_cons.mpr ⟨kf_4_97, List.forall_mem_cons.mpr ⟨kf_4_113, List.forall_mem_cons.mpr ⟨kf_4_120, List.forall_mem_cons.mpr ⟨kf_4_123, List.forall_mem_cons.mpr ⟨kf_4_137, fun _ h => absurd h List.not_mem_nil⟩⟩⟩⟩⟩⟩⟩⟩⟩⟩⟩⟩⟩⟩, List.forall_mem_cons.mpr ⟨List.forall_mem_cons.mpr ⟨kf_5_9, fun _ h => absurd h List.not_mem_nil⟩, List.forall_mem_cons.mpr ⟨List.forall_mem_cons.mpr ⟨kf_6_7, List.forall_mem_cons.mpr ⟨kf_6_13, List.forall_mem_cons.mpr ⟨kf_6_16, List.forall_mem_cons.mpr ⟨kf_6_19, List.forall_mem_cons.mpr ⟨kf_6_23, List.forall_mem_cons.mpr ⟨kf_6_26, List.forall_mem_cons.mpr ⟨kf_6_29, List.forall_mem_cons.mpr ⟨kf_6_32, List.forall_mem_cons.mpr ⟨kf_6_35, List.forall_mem_cons.mpr ⟨kf_6_38, List.forall_mem_cons.mpr ⟨kf_6_41, List.forall_mem_cons.mpr ⟨kf_6_59, List.forall_mem_cons.mpr ⟨kf_6_85, List.forall_mem_cons.mpr ⟨kf_6_106, fun _ h => absurd h List.not_mem_nil⟩⟩⟩⟩⟩⟩⟩⟩⟩⟩⟩⟩⟩⟩, fun _ h => absurd h List.not_mem_nil⟩⟩⟩⟩⟩⟩⟩
theorem kb_flok {y x ci k t : Nat} (h : kb_fl y x = some (ci, k, t)) : ∃ N T n, kb_cl[ci]? = some (N, T, n) ∧ k < n ∧ (∀ w ∈ u_ws N T n, w ∈ kb_all) ∧ Cond.fieldLink (kb_nm y).cls x (T k).1 (T k).2.1 (T k).2.2.1 ∈ kb_all ∧ (t = 1 → (T k).2.2.2 = false ∧ parseFieldDescriptor (T k).2.2.1 = some .int) ∧ (t = 2 → (T k).2.2.2 = false ∧ parseFieldDescriptor (T k).2.2.1 = some .boolean) := by
  rw [kb_cls]
  unfold kb_fl at h
  split at h
  next l hl => exact kb_flall _ (kb_lk_mem hl) _ (kb_lk_mem h)
  next => cases h
def kb_caL : List (Nat × List (Nat × Nat)) := [(0, [(25, 20), (29, 60), (33, 61), (37, 62), (41, 63), (45, 64), (48, 65), (52, 66), (56, 95), (60, 94), (64, 82), (69, 83), (72, 84), (75, 85), (83, 86), (86, 81), (89, 97), (92, 93), (96, 103), (104, 104)]), (1, [(35, 94), (39, 79), (43, 98), (47, 80), (51, 100), (55, 97), (59, 93), (63, 101), (76, 89), (79, 105), (84, 99), (88, 104), (91, 87), (95, 88)]), (2, [(28, 104), (32, 110), (36, 109)]), (3, [(36, 79), (40, 91), (44, 107), (50, 106), (54, 108), (58, 90), (62, 92), (66, 102), (70, 81)]), (4, [(43, 68), (46, 70), (50, 69), (63, 106), (69, 77), (76, 75), (80, 73), (84, 78), (90, 105), (93, 96), (101, 107), (105, 71), (109, 111), (116, 74), (126, 72), (129, 76), (133, 108), (140, 102)]), (5, []), (6, [(44, 24), (48, 23), (52, 25), (63, 29), (67, 30), (71, 26), (74, 31), (78, 28), (81, 33), (88, 35), (92, 36), (96, 37), (100, 38), (103, 32), (109, 39), (113, 40), (117, 34), (120, 49)])]
def kb_csL : List (Nat × List (Nat × (Nat ⊕ Nat))) := [(0, [(101, .inl 21)]), (1, [(66, .inr 1), (96, .inr 0)]), (2, [(40, .inr 2)]), (3, []), (4, [(39, .inl 67)]), (5, []), (6, [(55, .inl 22)])]
def kb_kcL : List (Nat × List (Nat × Int32)) := [(0, []), (1, [(83, 2147483647)]), (2, []), (3, [(74, 2147483647)]), (4, []), (5, []), (6, [])]
def kb_ca (y x : Nat) : Option Nat := match kb_lk kb_caL (kb_o y) with
  | some l => kb_lk l x
  | none => none
def kb_cs (y x : Nat) : Option (Nat ⊕ Nat) := match kb_lk kb_csL (kb_o y) with
  | some l => kb_lk l x
  | none => none
def kb_kc (y x : Nat) : Option Int32 := match kb_lk kb_kcL (kb_o y) with
  | some l => kb_lk l x
  | none => none
def kb_caP (o : Nat) (q : Nat × Nat) : Prop := Cond.methodLink (kb_cn o) q.1 (kb_nm q.2) ∈ kb_all ∧ kb_iP (kb_me q.2)
def kb_slP (o x t : Nat) : Prop := (t = 0 → Cond.methodLink (kb_cn o) x Lib.Math.min.name ∈ kb_all ∧ Cond.static Lib.Math.min.name ∈ kb_all ∧ Cond.initialized "java/lang/Math" ∈ kb_all ∧ Cond.code Lib.Math.min.name Lib.Math.min.code 2 (some .int) ∈ kb_all) ∧ (t = 1 → Cond.methodLink (kb_cn o) x Lib.Math.max.name ∈ kb_all ∧ Cond.static Lib.Math.max.name ∈ kb_all ∧ Cond.initialized "java/lang/Math" ∈ kb_all ∧ Cond.code Lib.Math.max.name Lib.Math.max.code 2 (some .int) ∈ kb_all) ∧ (t = 2 → Cond.methodLink (kb_cn o) x arraycopyName ∈ kb_all ∧ Cond.native arraycopyName ∈ kb_all ∧ Cond.static arraycopyName ∈ kb_all ∧ Cond.initialized "java/lang/System" ∈ kb_all)
def kb_csP (o : Nat) (q : Nat × (Nat ⊕ Nat)) : Prop := match q.2 with
  | .inl z => Cond.methodLink (kb_cn o) q.1 (kb_nm z) ∈ kb_all ∧ kb_sP (kb_me z) ∧ (kb_nm z).cls = kb_cn o
  | .inr t => kb_slP o q.1 t
def kb_kcP (o : Nat) (q : Nat × Int32) : Prop := Cond.constant (kb_cn o) q.1 q.2 ∈ kb_all
set_option maxRecDepth 100000 in
theorem kq_0_25 : kb_caP 0 (25, 20) := ⟨kb_all_in (List.mem_of_getElem? (i := 202) rfl) rfl, kj_BK_applicationOf⟩
set_option maxRecDepth 100000 in
theorem kq_0_29 : kb_caP 0 (29, 60) := ⟨kb_all_in (List.mem_of_getElem? (i := 206) rfl) rfl, kj_App_appendWord⟩
set_option maxRecDepth 100000 in
theorem kq_0_33 : kb_caP 0 (33, 61) := ⟨kb_all_in (List.mem_of_getElem? (i := 342) rfl) rfl, kj_App_writeWord⟩
set_option maxRecDepth 100000 in
theorem kq_0_37 : kb_caP 0 (37, 62) := ⟨kb_all_in (List.mem_of_getElem? (i := 350) rfl) rfl, kj_App_readWord⟩
set_option maxRecDepth 100000 in
theorem kq_0_41 : kb_caP 0 (41, 63) := ⟨kb_all_in (List.mem_of_getElem? (i := 362) rfl) rfl, kj_App_lengthOf⟩
set_option maxRecDepth 100000 in
theorem kq_0_45 : kb_caP 0 (45, 64) := ⟨kb_all_in (List.mem_of_getElem? (i := 370) rfl) rfl, kj_App_eraseFile⟩
set_option maxRecDepth 100000 in
theorem kq_0_48 : kb_caP 0 (48, 65) := ⟨kb_all_in (List.mem_of_getElem? (i := 387) rfl) rfl, kj_App_storeAllChanged⟩
set_option maxRecDepth 100000 in
theorem kq_0_52 : kb_caP 0 (52, 66) := ⟨kb_all_in (List.mem_of_getElem? (i := 395) rfl) rfl, kj_App_giveUpOldestFrame⟩
set_option maxRecDepth 100000 in
theorem kq_0_56 : kb_caP 0 (56, 95) := ⟨kb_all_in (List.mem_of_getElem? (i := 403) rfl) rfl, kj_Kernel_bindForGuest⟩
set_option maxRecDepth 100000 in
theorem kq_0_60 : kb_caP 0 (60, 94) := ⟨kb_all_in (List.mem_of_getElem? (i := 424) rfl) rfl, kj_Kernel_guestOf⟩
set_option maxRecDepth 100000 in
theorem kq_0_64 : kb_caP 0 (64, 82) := ⟨kb_all_in (List.mem_of_getElem? (i := 425) rfl) rfl, kj_Guest_putWord⟩
set_option maxRecDepth 100000 in
theorem kq_0_69 : kb_caP 0 (69, 83) := ⟨kb_all_in (List.mem_of_getElem? (i := 446) rfl) rfl, kj_Guest_getWord⟩
set_option maxRecDepth 100000 in
theorem kq_0_72 : kb_caP 0 (72, 84) := ⟨kb_all_in (List.mem_of_getElem? (i := 455) rfl) rfl, kj_Guest_copyWords⟩
set_option maxRecDepth 100000 in
theorem kq_0_75 : kb_caP 0 (75, 85) := ⟨kb_all_in (List.mem_of_getElem? (i := 464) rfl) rfl, kj_Guest_giveBack⟩
set_option maxRecDepth 100000 in
theorem kq_0_83 : kb_caP 0 (83, 86) := ⟨kb_all_in (List.mem_of_getElem? (i := 472) rfl) rfl, kj_Guest_askFor⟩
set_option maxRecDepth 100000 in
theorem kq_0_86 : kb_caP 0 (86, 81) := ⟨kb_all_in (List.mem_of_getElem? (i := 480) rfl) rfl, kj_Guest_stateOf⟩
set_option maxRecDepth 100000 in
theorem kq_0_89 : kb_caP 0 (89, 97) := ⟨kb_all_in (List.mem_of_getElem? (i := 485) rfl) rfl, kj_Kernel_moveTimeTo⟩
set_option maxRecDepth 100000 in
theorem kq_0_92 : kb_caP 0 (92, 93) := ⟨kb_all_in (List.mem_of_getElem? (i := 494) rfl) rfl, kj_Kernel_poolOf⟩
set_option maxRecDepth 100000 in
theorem kq_0_96 : kb_caP 0 (96, 103) := ⟨kb_all_in (List.mem_of_getElem? (i := 495) rfl) rfl, kj_Pool_countFree⟩
set_option maxRecDepth 100000 in
theorem kq_0_104 : kb_caP 0 (104, 104) := ⟨kb_all_in (List.mem_of_getElem? (i := 506) rfl) rfl, kj_Pool_countHeldBy⟩
set_option maxRecDepth 100000 in
theorem kq_0_101 : kb_csP 0 (101, .inl 21) := ⟨kb_all_in (List.mem_of_getElem? (i := 503) rfl) rfl, kj_BK_isEnvironment, rfl⟩
set_option maxRecDepth 100000 in
theorem kq_1_35 : kb_caP 1 (35, 94) := ⟨kb_all_in (List.mem_of_getElem? (i := 407) rfl) rfl, kj_Kernel_guestOf⟩
set_option maxRecDepth 100000 in
theorem kq_1_39 : kb_caP 1 (39, 79) := ⟨kb_all_in (List.mem_of_getElem? (i := 411) rfl) rfl, kj_Guest_hasAllTickets⟩
set_option maxRecDepth 100000 in
theorem kq_1_43 : kb_caP 1 (43, 98) := ⟨kb_all_in (List.mem_of_getElem? (i := 229) rfl) rfl, kj_Kernel_claim⟩
set_option maxRecDepth 100000 in
theorem kq_1_47 : kb_caP 1 (47, 80) := ⟨kb_all_in (List.mem_of_getElem? (i := 415) rfl) rfl, kj_Guest_addTicket⟩
set_option maxRecDepth 100000 in
theorem kq_1_51 : kb_caP 1 (51, 100) := ⟨kb_all_in (List.mem_of_getElem? (i := 242) rfl) rfl, kj_Kernel_earliestDeadline⟩
set_option maxRecDepth 100000 in
theorem kq_1_55 : kb_caP 1 (55, 97) := ⟨kb_all_in (List.mem_of_getElem? (i := 264) rfl) rfl, kj_Kernel_moveTimeTo⟩
set_option maxRecDepth 100000 in
theorem kq_1_59 : kb_caP 1 (59, 93) := ⟨kb_all_in (List.mem_of_getElem? (i := 233) rfl) rfl, kj_Kernel_poolOf⟩
set_option maxRecDepth 100000 in
theorem kq_1_63 : kb_caP 1 (63, 101) := ⟨kb_all_in (List.mem_of_getElem? (i := 237) rfl) rfl, kj_Pool_bindFreeOne⟩
set_option maxRecDepth 100000 in
theorem kq_1_76 : kb_caP 1 (76, 89) := ⟨kb_all_in (List.mem_of_getElem? (i := 268) rfl) rfl, kj_Guest_loseAllDue⟩
set_option maxRecDepth 100000 in
theorem kq_1_79 : kb_caP 1 (79, 105) := ⟨kb_all_in (List.mem_of_getElem? (i := 241) rfl) rfl, kj_Pool_hasFullShare⟩
set_option maxRecDepth 100000 in
theorem kq_1_84 : kb_caP 1 (84, 99) := ⟨kb_all_in (List.mem_of_getElem? (i := 255) rfl) rfl, kj_Kernel_askRicherGuest⟩
set_option maxRecDepth 100000 in
theorem kq_1_88 : kb_caP 1 (88, 104) := ⟨kb_all_in (List.mem_of_getElem? (i := 259) rfl) rfl, kj_Pool_countHeldBy⟩
set_option maxRecDepth 100000 in
theorem kq_1_91 : kb_caP 1 (91, 87) := ⟨kb_all_in (List.mem_of_getElem? (i := 260) rfl) rfl, kj_Guest_askForLastOf⟩
set_option maxRecDepth 100000 in
theorem kq_1_95 : kb_caP 1 (95, 88) := ⟨kb_all_in (List.mem_of_getElem? (i := 246) rfl) rfl, kj_Guest_earliestDeadline⟩
set_option maxRecDepth 100000 in
theorem kq_1_66 : kb_csP 1 (66, .inr 1) := ⟨fun h => absurd h (by decide), fun _ => ⟨kb_all_in (List.mem_of_getElem? (i := 280) rfl) rfl, kb_all_in (List.mem_of_getElem? (i := 281) rfl) rfl, kb_all_in (List.mem_of_getElem? (i := 46) rfl) rfl, kb_all_in (List.mem_of_getElem? (i := 282) rfl) rfl⟩, fun h => absurd h (by decide)⟩
set_option maxRecDepth 100000 in
theorem kq_1_96 : kb_csP 1 (96, .inr 0) := ⟨fun _ => ⟨kb_all_in (List.mem_of_getElem? (i := 251) rfl) rfl, kb_all_in (List.mem_of_getElem? (i := 252) rfl) rfl, kb_all_in (List.mem_of_getElem? (i := 46) rfl) rfl, kb_all_in (List.mem_of_getElem? (i := 253) rfl) rfl⟩, fun h => absurd h (by decide), fun h => absurd h (by decide)⟩
set_option maxRecDepth 100000 in
theorem kk_1_83 : kb_kcP 1 (83, 2147483647) := kb_all_in (List.mem_of_getElem? (i := 254) rfl) rfl
set_option maxRecDepth 100000 in
theorem kq_2_28 : kb_caP 2 (28, 104) := ⟨kb_all_in (List.mem_of_getElem? (i := 221) rfl) rfl, kj_Pool_countHeldBy⟩
set_option maxRecDepth 100000 in
theorem kq_2_32 : kb_caP 2 (32, 110) := ⟨kb_all_in (List.mem_of_getElem? (i := 334) rfl) rfl, kj_Pool_hasWord⟩
set_option maxRecDepth 100000 in
theorem kq_2_36 : kb_caP 2 (36, 109) := ⟨kb_all_in (List.mem_of_getElem? (i := 315) rfl) rfl, kj_Pool_hasResource⟩
set_option maxRecDepth 100000 in
theorem kq_2_40 : kb_csP 2 (40, .inr 2) := ⟨fun h => absurd h (by decide), fun h => absurd h (by decide), fun _ => ⟨kb_all_in (List.mem_of_getElem? (i := 319) rfl) rfl, kb_all_in (List.mem_of_getElem? (i := 321) rfl) rfl, kb_all_in (List.mem_of_getElem? (i := 320) rfl) rfl, kb_all_in (List.mem_of_getElem? (i := 47) rfl) rfl⟩⟩
set_option maxRecDepth 100000 in
theorem kq_3_36 : kb_caP 3 (36, 79) := ⟨kb_all_in (List.mem_of_getElem? (i := 419) rfl) rfl, kj_Guest_hasAllTickets⟩
set_option maxRecDepth 100000 in
theorem kq_3_40 : kb_caP 3 (40, 91) := ⟨kb_all_in (List.mem_of_getElem? (i := 429) rfl) rfl, kj_Guest_isLiveOf⟩
set_option maxRecDepth 100000 in
theorem kq_3_44 : kb_caP 3 (44, 107) := ⟨kb_all_in (List.mem_of_getElem? (i := 441) rfl) rfl, kj_Pool_setWord⟩
set_option maxRecDepth 100000 in
theorem kq_3_50 : kb_caP 3 (50, 106) := ⟨kb_all_in (List.mem_of_getElem? (i := 450) rfl) rfl, kj_Pool_wordAt⟩
set_option maxRecDepth 100000 in
theorem kq_3_54 : kb_caP 3 (54, 108) := ⟨kb_all_in (List.mem_of_getElem? (i := 459) rfl) rfl, kj_Pool_takeWordsFrom⟩
set_option maxRecDepth 100000 in
theorem kq_3_58 : kb_caP 3 (58, 90) := ⟨kb_all_in (List.mem_of_getElem? (i := 433) rfl) rfl, kj_Guest_isLive⟩
set_option maxRecDepth 100000 in
theorem kq_3_62 : kb_caP 3 (62, 92) := ⟨kb_all_in (List.mem_of_getElem? (i := 272) rfl) rfl, kj_Guest_poolOf⟩
set_option maxRecDepth 100000 in
theorem kq_3_66 : kb_caP 3 (66, 102) := ⟨kb_all_in (List.mem_of_getElem? (i := 276) rfl) rfl, kj_Pool_endBinding⟩
set_option maxRecDepth 100000 in
theorem kq_3_70 : kb_caP 3 (70, 81) := ⟨kb_all_in (List.mem_of_getElem? (i := 437) rfl) rfl, kj_Guest_stateOf⟩
set_option maxRecDepth 100000 in
theorem kk_3_74 : kb_kcP 3 (74, 2147483647) := kb_all_in (List.mem_of_getElem? (i := 250) rfl) rfl
set_option maxRecDepth 100000 in
theorem kq_4_43 : kb_caP 4 (43, 68) := ⟨kb_all_in (List.mem_of_getElem? (i := 213) rfl) rfl, kj_App_makeRoomForWord⟩
set_option maxRecDepth 100000 in
theorem kq_4_46 : kb_caP 4 (46, 70) := ⟨kb_all_in (List.mem_of_getElem? (i := 283) rfl) rfl, kj_App_openPartOf⟩
set_option maxRecDepth 100000 in
theorem kq_4_50 : kb_caP 4 (50, 69) := ⟨kb_all_in (List.mem_of_getElem? (i := 326) rfl) rfl, kj_App_changeWord⟩
set_option maxRecDepth 100000 in
theorem kq_4_63 : kb_caP 4 (63, 106) := ⟨kb_all_in (List.mem_of_getElem? (i := 354) rfl) rfl, kj_Pool_wordAt⟩
set_option maxRecDepth 100000 in
theorem kq_4_69 : kb_caP 4 (69, 77) := ⟨kb_all_in (List.mem_of_getElem? (i := 374) rfl) rfl, kj_App_dropPart⟩
set_option maxRecDepth 100000 in
theorem kq_4_76 : kb_caP 4 (76, 75) := ⟨kb_all_in (List.mem_of_getElem? (i := 303) rfl) rfl, kj_App_storeIfChanged⟩
set_option maxRecDepth 100000 in
theorem kq_4_80 : kb_caP 4 (80, 73) := ⟨kb_all_in (List.mem_of_getElem? (i := 295) rfl) rfl, kj_App_oldestSlot⟩
set_option maxRecDepth 100000 in
theorem kq_4_84 : kb_caP 4 (84, 78) := ⟨kb_all_in (List.mem_of_getElem? (i := 378) rfl) rfl, kj_App_giveFrameBack⟩
set_option maxRecDepth 100000 in
theorem kq_4_90 : kb_caP 4 (90, 105) := ⟨kb_all_in (List.mem_of_getElem? (i := 217) rfl) rfl, kj_Pool_hasFullShare⟩
set_option maxRecDepth 100000 in
theorem kq_4_93 : kb_caP 4 (93, 96) := ⟨kb_all_in (List.mem_of_getElem? (i := 225) rfl) rfl, kj_Kernel_bindForApplication⟩
set_option maxRecDepth 100000 in
theorem kq_4_101 : kb_caP 4 (101, 107) := ⟨kb_all_in (List.mem_of_getElem? (i := 330) rfl) rfl, kj_Pool_setWord⟩
set_option maxRecDepth 100000 in
theorem kq_4_105 : kb_caP 4 (105, 71) := ⟨kb_all_in (List.mem_of_getElem? (i := 287) rfl) rfl, kj_App_slotFor⟩
set_option maxRecDepth 100000 in
theorem kq_4_109 : kb_caP 4 (109, 111) := ⟨kb_all_in (List.mem_of_getElem? (i := 299) rfl) rfl, kj_Slot_isEmpty⟩
set_option maxRecDepth 100000 in
theorem kq_4_116 : kb_caP 4 (116, 74) := ⟨kb_all_in (List.mem_of_getElem? (i := 322) rfl) rfl, kj_App_load⟩
set_option maxRecDepth 100000 in
theorem kq_4_126 : kb_caP 4 (126, 72) := ⟨kb_all_in (List.mem_of_getElem? (i := 291) rfl) rfl, kj_App_slotOf⟩
set_option maxRecDepth 100000 in
theorem kq_4_129 : kb_caP 4 (129, 76) := ⟨kb_all_in (List.mem_of_getElem? (i := 307) rfl) rfl, kj_App_blockOf⟩
set_option maxRecDepth 100000 in
theorem kq_4_133 : kb_caP 4 (133, 108) := ⟨kb_all_in (List.mem_of_getElem? (i := 311) rfl) rfl, kj_Pool_takeWordsFrom⟩
set_option maxRecDepth 100000 in
theorem kq_4_140 : kb_caP 4 (140, 102) := ⟨kb_all_in (List.mem_of_getElem? (i := 382) rfl) rfl, kj_Pool_endBinding⟩
set_option maxRecDepth 100000 in
theorem kq_4_39 : kb_csP 4 (39, .inl 67) := ⟨kb_all_in (List.mem_of_getElem? (i := 210) rfl) rfl, kj_App_isFile, rfl⟩
set_option maxRecDepth 100000 in
theorem kq_6_44 : kb_caP 6 (44, 24) := ⟨kb_all_in (List.mem_of_getElem? (i := 572) rfl) rfl, kj_Model_liveOf⟩
set_option maxRecDepth 100000 in
theorem kq_6_48 : kb_caP 6 (48, 23) := ⟨kb_all_in (List.mem_of_getElem? (i := 576) rfl) rfl, kj_Model_blocksOf⟩
set_option maxRecDepth 100000 in
theorem kq_6_52 : kb_caP 6 (52, 25) := ⟨kb_all_in (List.mem_of_getElem? (i := 568) rfl) rfl, kj_Model_count⟩
set_option maxRecDepth 100000 in
theorem kq_6_63 : kb_caP 6 (63, 29) := ⟨kb_all_in (List.mem_of_getElem? (i := 604) rfl) rfl, kj_Model_earliest⟩
set_option maxRecDepth 100000 in
theorem kq_6_67 : kb_caP 6 (67, 30) := ⟨kb_all_in (List.mem_of_getElem? (i := 608) rfl) rfl, kj_Model_mark⟩
set_option maxRecDepth 100000 in
theorem kq_6_71 : kb_caP 6 (71, 26) := ⟨kb_all_in (List.mem_of_getElem? (i := 599) rfl) rfl, kj_Model_free⟩
set_option maxRecDepth 100000 in
theorem kq_6_74 : kb_caP 6 (74, 31) := ⟨kb_all_in (List.mem_of_getElem? (i := 600) rfl) rfl, kj_Model_wish⟩
set_option maxRecDepth 100000 in
theorem kq_6_78 : kb_caP 6 (78, 28) := ⟨kb_all_in (List.mem_of_getElem? (i := 612) rfl) rfl, kj_Model_moveTo⟩
set_option maxRecDepth 100000 in
theorem kq_6_81 : kb_caP 6 (81, 33) := ⟨kb_all_in (List.mem_of_getElem? (i := 591) rfl) rfl, kj_Model_noFile⟩
set_option maxRecDepth 100000 in
theorem kq_6_88 : kb_caP 6 (88, 35) := ⟨kb_all_in (List.mem_of_getElem? (i := 624) rfl) rfl, kj_Model_find⟩
set_option maxRecDepth 100000 in
theorem kq_6_92 : kb_caP 6 (92, 36) := ⟨kb_all_in (List.mem_of_getElem? (i := 628) rfl) rfl, kj_Model_remove⟩
set_option maxRecDepth 100000 in
theorem kq_6_96 : kb_caP 6 (96, 37) := ⟨kb_all_in (List.mem_of_getElem? (i := 632) rfl) rfl, kj_Model_add⟩
set_option maxRecDepth 100000 in
theorem kq_6_100 : kb_caP 6 (100, 38) := ⟨kb_all_in (List.mem_of_getElem? (i := 636) rfl) rfl, kj_Model_storeAt⟩
set_option maxRecDepth 100000 in
theorem kq_6_103 : kb_caP 6 (103, 32) := ⟨kb_all_in (List.mem_of_getElem? (i := 595) rfl) rfl, kj_Model_claim⟩
set_option maxRecDepth 100000 in
theorem kq_6_109 : kb_caP 6 (109, 39) := ⟨kb_all_in (List.mem_of_getElem? (i := 620) rfl) rfl, kj_Model_open⟩
set_option maxRecDepth 100000 in
theorem kq_6_113 : kb_caP 6 (113, 40) := ⟨kb_all_in (List.mem_of_getElem? (i := 616) rfl) rfl, kj_Model_change⟩
set_option maxRecDepth 100000 in
theorem kq_6_117 : kb_caP 6 (117, 34) := ⟨kb_all_in (List.mem_of_getElem? (i := 644) rfl) rfl, kj_Model_noWord⟩
set_option maxRecDepth 100000 in
theorem kq_6_120 : kb_caP 6 (120, 49) := ⟨kb_all_in (List.mem_of_getElem? (i := 676) rfl) rfl, kj_Model_live⟩
set_option maxRecDepth 100000 in
theorem kq_6_55 : kb_csP 6 (55, .inl 22) := ⟨kb_all_in (List.mem_of_getElem? (i := 584) rfl) rfl, kj_Model_within, rfl⟩
set_option maxRecDepth 100000 in
theorem kb_caall : ∀ q ∈ kb_caL, ∀ r ∈ q.2, kb_caP q.1 r := List.forall_mem_cons.mpr ⟨List.forall_mem_cons.mpr ⟨kq_0_25, List.forall_mem_cons.mpr ⟨kq_0_29, List.forall_mem_cons.mpr ⟨kq_0_33, List.forall_mem_cons.mpr ⟨kq_0_37, List.forall_mem_cons.mpr ⟨kq_0_41, List.forall_mem_cons.mpr ⟨kq_0_45, List.forall_mem_cons.mpr ⟨kq_0_48, List.forall_mem_cons.mpr ⟨kq_0_52, List.forall_mem_cons.mpr ⟨kq_0_56, List.forall_mem_cons.mpr ⟨kq_0_60, List.forall_mem_cons.mpr ⟨kq_0_64, List.forall_mem_cons.mpr ⟨kq_0_69, List.forall_mem_cons.mpr ⟨kq_0_72, List.forall_mem_cons.mpr ⟨kq_0_75, List.forall_mem_cons.mpr ⟨kq_0_83, List.forall_mem_cons.mpr ⟨kq_0_86, List.forall_mem_cons.mpr ⟨kq_0_89, List.forall_mem_cons.mpr ⟨kq_0_92, List.forall_mem_cons.mpr ⟨kq_0_96, List.forall_mem_cons.mpr ⟨kq_0_104, fun _ h => absurd h List.not_mem_nil⟩⟩⟩⟩⟩⟩⟩⟩⟩⟩⟩⟩⟩⟩⟩⟩⟩⟩⟩⟩, List.forall_mem_cons.mpr ⟨List.forall_mem_cons.mpr ⟨kq_1_35, List.forall_mem_cons.mpr ⟨kq_1_39, List.forall_mem_cons.mpr ⟨kq_1_43, List.forall_mem_cons.mpr ⟨kq_1_47, List.forall_mem_cons.mpr ⟨kq_1_51, List.forall_mem_cons.mpr ⟨kq_1_55, List.forall_mem_cons.mpr ⟨kq_1_59, List.forall_mem_cons.mpr ⟨kq_1_63, List.forall_mem_cons.mpr ⟨kq_1_76, List.forall_mem_cons.mpr ⟨kq_1_79, List.forall_mem_cons.mpr ⟨kq_1_84, List.forall_mem_cons.mpr ⟨kq_1_88, List.forall_mem_cons.mpr ⟨kq_1_91, List.forall_mem_cons.mpr ⟨kq_1_95, fun _ h => absurd h List.not_mem_nil⟩⟩⟩⟩⟩⟩⟩⟩⟩⟩⟩⟩⟩⟩, List.forall_mem_cons.mpr ⟨List.forall_mem_cons.mpr ⟨kq_2_28, List.forall_mem_cons.mpr ⟨kq_2_32, List.forall_mem_cons.mpr ⟨kq_2_36, fun _ h => absurd h List.not_mem_nil⟩⟩⟩, List.forall_mem_cons.mpr ⟨List.forall_mem_cons.mpr ⟨kq_3_36, List.forall_mem_cons.mpr ⟨kq_3_40, List.forall_mem_cons.mpr ⟨kq_3_44, List.forall_mem_cons.mpr ⟨kq_3_50, List.forall_mem_cons.mpr ⟨kq_3_54, List.forall_mem_cons.mpr ⟨kq_3_58, List.forall_mem_cons.mpr ⟨kq_3_62, List.forall_mem_cons.mpr ⟨kq_3_66, List.forall_mem_cons.mpr ⟨kq_3_70, fun _ h => absurd h List.not_mem_nil⟩⟩⟩⟩⟩⟩⟩⟩⟩, List.forall_mem_cons.mpr ⟨List.forall_mem_cons.mpr ⟨kq_4_43, List.forall_mem_cons.mpr ⟨kq_4_46, List.forall_mem_cons.mpr ⟨kq_4_50, List.forall_mem_cons.mpr ⟨kq_4_63, List.forall_mem_cons.mpr ⟨kq_4_69, List.forall_mem_cons.mpr ⟨kq_4_76, List.forall_mem_cons.mpr ⟨kq_4_80, List.forall_mem_cons.mpr ⟨kq_4_84, List.forall_mem_cons.mpr ⟨kq_4_90, List.forall_mem_cons.mpr ⟨kq_4_93, List.forall_mem_cons.mpr ⟨kq_4_101, List.forall_mem_cons.mpr ⟨kq_4_105, List.forall_mem_cons.mpr ⟨kq_4_109, List.forall_mem_cons.mpr ⟨kq_4_116, List.forall_mem_cons.mpr ⟨kq_4_126, List.forall_mem_cons.mpr ⟨kq_4_129, List.forall_mem_cons.mpr ⟨kq_4_133, List.forall_mem_cons.mpr ⟨kq_4_140, fun _ h => absurd h List.not_mem_nil⟩⟩⟩⟩⟩⟩⟩⟩⟩⟩⟩⟩⟩⟩⟩⟩⟩⟩, List.forall_mem_cons.mpr ⟨fun _ h => absurd h List.not_mem_nil, List.forall_mem_cons.mpr ⟨List.forall_mem_cons.mpr ⟨kq_6_44, List.forall_mem_cons.mpr ⟨kq_6_48, List.forall_mem_cons.mpr ⟨kq_6_52, List.forall_mem_cons.mpr ⟨kq_6_63, List.forall_mem_cons.mpr ⟨kq_6_67, List.forall_mem_cons.mpr ⟨kq_6_71, List.forall_mem_cons.mpr ⟨kq_6_74, List.forall_mem_cons.mpr ⟨kq_6_78, List.forall_mem_cons.mpr ⟨kq_6_81, List.forall_mem_cons.mpr ⟨kq_6_88, List.forall_mem_cons.mpr ⟨kq_6_92, List.forall_mem_cons.mpr ⟨kq_6_96, List.forall_mem_cons.mpr ⟨kq_6_100, List.forall_mem_cons.mpr ⟨kq_6_103, List.forall_mem_cons.mpr ⟨kq_6_109, List.forall_mem_cons.mpr ⟨kq_6_113, List.forall_mem_cons.mpr ⟨kq_6_117, List.forall_mem_cons.mpr ⟨kq_6_120, fun _ h => absurd h List.not_mem_nil⟩⟩⟩⟩⟩⟩⟩⟩⟩⟩⟩⟩⟩⟩⟩⟩⟩⟩, fun _ h => absurd h List.not_mem_nil⟩⟩⟩⟩⟩⟩⟩
set_option maxRecDepth 100000 in
theorem kb_csall : ∀ q ∈ kb_csL, ∀ r ∈ q.2, kb_csP q.1 r := List.forall_mem_cons.mpr ⟨List.forall_mem_cons.mpr ⟨kq_0_101, fun _ h => absurd h List.not_mem_nil⟩, List.forall_mem_cons.mpr ⟨List.forall_mem_cons.mpr ⟨kq_1_66, List.forall_mem_cons.mpr ⟨kq_1_96, fun _ h => absurd h List.not_mem_nil⟩⟩, List.forall_mem_cons.mpr ⟨List.forall_mem_cons.mpr ⟨kq_2_40, fun _ h => absurd h List.not_mem_nil⟩, List.forall_mem_cons.mpr ⟨fun _ h => absurd h List.not_mem_nil, List.forall_mem_cons.mpr ⟨List.forall_mem_cons.mpr ⟨kq_4_39, fun _ h => absurd h List.not_mem_nil⟩, List.forall_mem_cons.mpr ⟨fun _ h => absurd h List.not_mem_nil, List.forall_mem_cons.mpr ⟨List.forall_mem_cons.mpr ⟨kq_6_55, fun _ h => absurd h List.not_mem_nil⟩, fun _ h => absurd h List.not_mem_nil⟩⟩⟩⟩⟩⟩⟩
set_option maxRecDepth 100000 in
theorem kb_kcall : ∀ q ∈ kb_kcL, ∀ r ∈ q.2, kb_kcP q.1 r := List.forall_mem_cons.mpr ⟨fun _ h => absurd h List.not_mem_nil, List.forall_mem_cons.mpr ⟨List.forall_mem_cons.mpr ⟨kk_1_83, fun _ h => absurd h List.not_mem_nil⟩, List.forall_mem_cons.mpr ⟨fun _ h => absurd h List.not_mem_nil, List.forall_mem_cons.mpr ⟨List.forall_mem_cons.mpr ⟨kk_3_74, fun _ h => absurd h List.not_mem_nil⟩, List.forall_mem_cons.mpr ⟨fun _ h => absurd h List.not_mem_nil, List.forall_mem_cons.mpr ⟨fun _ h => absurd h List.not_mem_nil, List.forall_mem_cons.mpr ⟨fun _ h => absurd h List.not_mem_nil, fun _ h => absurd h List.not_mem_nil⟩⟩⟩⟩⟩⟩⟩
theorem kb_caok {y x z : Nat} (h : kb_ca y x = some z) : Cond.methodLink (kb_nm y).cls x (kb_nm z) ∈ kb_all ∧ Cond.instanceMethod (kb_nm z) ∈ kb_all ∧ Cond.selects (kb_nm z).cls (kb_nm z) (kb_nm z) ∈ kb_all ∧ Cond.initialized (kb_nm z).cls ∈ kb_all ∧ Cond.code (kb_nm z) (kb_by z) (kb_mL z) (kb_rt z) ∈ kb_all ∧ (kb_nm z).cls ≠ "java/lang/invoke/MethodHandle" ∧ (kb_nm z).cls ≠ "java/lang/invoke/VarHandle" ∧ (parseMethodDescriptor (kb_nm z).desc).map (fun d => d.parameters.length) = some (kb_np z) ∧ plainName (kb_nm z).cls = true ∧ kb_np z + 1 ≤ kb_mL z ∧ ∃ T n, kb_cl[kb_o z]? = some ((kb_nm z).cls, T, n) := by
  rw [kb_cls y]
  unfold kb_ca at h
  split at h
  next l hl =>
    obtain ⟨h1, ⟨h2, h3, h4, h5, h6, h7⟩, h8, h9, h10, h11⟩ := kb_caall _ (kb_lk_mem hl) _ (kb_lk_mem h)
    exact ⟨h1, h8, h9, h2, h3, h4, h5, h6, h7, h10, h11⟩
  next => cases h
theorem kb_csok {y x z : Nat} (h : kb_cs y x = some (.inl z)) : Cond.methodLink (kb_nm y).cls x (kb_nm z) ∈ kb_all ∧ Cond.static (kb_nm z) ∈ kb_all ∧ (kb_nm z).cls = (kb_nm y).cls ∧ Cond.initialized (kb_nm z).cls ∈ kb_all ∧ Cond.code (kb_nm z) (kb_by z) (kb_mL z) (kb_rt z) ∈ kb_all ∧ (kb_nm z).cls ≠ "java/lang/invoke/MethodHandle" ∧ (kb_nm z).cls ≠ "java/lang/invoke/VarHandle" ∧ (parseMethodDescriptor (kb_nm z).desc).map (fun d => d.parameters.length) = some (kb_np z) ∧ plainName (kb_nm z).cls = true ∧ kb_np z ≤ kb_mL z := by
  rw [kb_cls y]
  unfold kb_cs at h
  split at h
  next l hl =>
    obtain ⟨h1, ⟨⟨h2, h3, h4, h5, h6, h7⟩, h8, h9⟩, h10⟩ := kb_csall _ (kb_lk_mem hl) _ (kb_lk_mem h)
    exact ⟨h1, h8, h10, h2, h3, h4, h5, h6, h7, h9⟩
  next => cases h
theorem kb_csl {y x t : Nat} (h : kb_cs y x = some (.inr t)) : (t = 0 → Cond.methodLink (kb_nm y).cls x Lib.Math.min.name ∈ kb_all ∧ Cond.static Lib.Math.min.name ∈ kb_all ∧ Cond.initialized "java/lang/Math" ∈ kb_all ∧ Cond.code Lib.Math.min.name Lib.Math.min.code 2 (some .int) ∈ kb_all) ∧ (t = 1 → Cond.methodLink (kb_nm y).cls x Lib.Math.max.name ∈ kb_all ∧ Cond.static Lib.Math.max.name ∈ kb_all ∧ Cond.initialized "java/lang/Math" ∈ kb_all ∧ Cond.code Lib.Math.max.name Lib.Math.max.code 2 (some .int) ∈ kb_all) ∧ (t = 2 → Cond.methodLink (kb_nm y).cls x arraycopyName ∈ kb_all ∧ Cond.native arraycopyName ∈ kb_all ∧ Cond.static arraycopyName ∈ kb_all ∧ Cond.initialized "java/lang/System" ∈ kb_all) := by
  rw [kb_cls y]
  unfold kb_cs at h
  split at h
  next l hl => exact kb_csall _ (kb_lk_mem hl) _ (kb_lk_mem h)
  next => cases h
theorem kb_kcok {y x : Nat} {v : Int32} (h : kb_kc y x = some v) : Cond.constant (kb_nm y).cls x v ∈ kb_all := by
  rw [kb_cls y]
  unfold kb_kc at h
  split at h
  next l hl => exact kb_kcall _ (kb_lk_mem hl) _ (kb_lk_mem h)
  next => cases h
