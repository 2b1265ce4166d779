section
-- ===== PART A: goes FIRST, ahead of the names: the tables' words, and 'selects' of the private methods out of them =====
/-- a private method of a class that the tables say can be made, by its rows of tables_1 -/
def lw_okq (q : MethodName × Nat) : Prop := (q.1.cls ≠ "java/lang/invoke/MethodHandle" ∧ q.1.cls ≠ "java/lang/invoke/VarHandle") ∧ Cond.instantiable q.1.cls q.2 ∈ tables_1 ∧ Cond.privateMethod q.1 ∈ tables_1 ∧ Cond.instanceMethod q.1 ∈ tables_1
theorem lw_p0 : lw_okq (⟨"BindingKernel", "applicationOf", "(I)LBindingKernel$Application;"⟩, 2) := ⟨⟨by decide +kernel, by decide +kernel⟩, List.mem_of_getElem? (i := 12) (by decide +kernel), List.mem_of_getElem? (i := 166) (by decide +kernel), List.mem_of_getElem? (i := 167) (by decide +kernel)⟩
theorem lw_p1 : lw_okq (⟨"BindingKernel$Application", "makeRoomForWord", "(I)Z"⟩, 8) := ⟨⟨by decide +kernel, by decide +kernel⟩, List.mem_of_getElem? (i := 99) (by decide +kernel), List.mem_of_getElem? (i := 177) (by decide +kernel), List.mem_of_getElem? (i := 178) (by decide +kernel)⟩
theorem lw_p2 : lw_okq (⟨"BindingKernel$Kernel", "claim", "(IZ)I"⟩, 5) := ⟨⟨by decide +kernel, by decide +kernel⟩, List.mem_of_getElem? (i := 20) (by decide +kernel), List.mem_of_getElem? (i := 193) (by decide +kernel), List.mem_of_getElem? (i := 194) (by decide +kernel)⟩
theorem lw_p3 : lw_okq (⟨"BindingKernel$Kernel", "earliestDeadline", "(Z)I"⟩, 5) := ⟨⟨by decide +kernel, by decide +kernel⟩, List.mem_of_getElem? (i := 20) (by decide +kernel), List.mem_of_getElem? (i := 206) (by decide +kernel), List.mem_of_getElem? (i := 207) (by decide +kernel)⟩
theorem lw_p4 : lw_okq (⟨"BindingKernel$Kernel", "askRicherGuest", "(Z)V"⟩, 5) := ⟨⟨by decide +kernel, by decide +kernel⟩, List.mem_of_getElem? (i := 20) (by decide +kernel), List.mem_of_getElem? (i := 219) (by decide +kernel), List.mem_of_getElem? (i := 220) (by decide +kernel)⟩
theorem lw_p5 : lw_okq (⟨"BindingKernel$Guest", "poolOf", "(I)LBindingKernel$Pool;"⟩, 8) := ⟨⟨by decide +kernel, by decide +kernel⟩, List.mem_of_getElem? (i := 46) (by decide +kernel), List.mem_of_getElem? (i := 236) (by decide +kernel), List.mem_of_getElem? (i := 237) (by decide +kernel)⟩
theorem lw_p6 : lw_okq (⟨"BindingKernel$Application", "openPartOf", "(II)LBindingKernel$Slot;"⟩, 8) := ⟨⟨by decide +kernel, by decide +kernel⟩, List.mem_of_getElem? (i := 99) (by decide +kernel), List.mem_of_getElem? (i := 247) (by decide +kernel), List.mem_of_getElem? (i := 248) (by decide +kernel)⟩
theorem lw_p7 : lw_okq (⟨"BindingKernel$Application", "slotFor", "(I)LBindingKernel$Slot;"⟩, 8) := ⟨⟨by decide +kernel, by decide +kernel⟩, List.mem_of_getElem? (i := 99) (by decide +kernel), List.mem_of_getElem? (i := 251) (by decide +kernel), List.mem_of_getElem? (i := 252) (by decide +kernel)⟩
theorem lw_p8 : lw_okq (⟨"BindingKernel$Application", "slotOf", "(I)LBindingKernel$Slot;"⟩, 8) := ⟨⟨by decide +kernel, by decide +kernel⟩, List.mem_of_getElem? (i := 99) (by decide +kernel), List.mem_of_getElem? (i := 255) (by decide +kernel), List.mem_of_getElem? (i := 256) (by decide +kernel)⟩
theorem lw_p9 : lw_okq (⟨"BindingKernel$Application", "oldestSlot", "()LBindingKernel$Slot;"⟩, 8) := ⟨⟨by decide +kernel, by decide +kernel⟩, List.mem_of_getElem? (i := 99) (by decide +kernel), List.mem_of_getElem? (i := 259) (by decide +kernel), List.mem_of_getElem? (i := 260) (by decide +kernel)⟩
theorem lw_p10 : lw_okq (⟨"BindingKernel$Application", "storeIfChanged", "(LBindingKernel$Slot;)V"⟩, 8) := ⟨⟨by decide +kernel, by decide +kernel⟩, List.mem_of_getElem? (i := 99) (by decide +kernel), List.mem_of_getElem? (i := 267) (by decide +kernel), List.mem_of_getElem? (i := 268) (by decide +kernel)⟩
theorem lw_p11 : lw_okq (⟨"BindingKernel$Application", "blockOf", "(I)I"⟩, 8) := ⟨⟨by decide +kernel, by decide +kernel⟩, List.mem_of_getElem? (i := 99) (by decide +kernel), List.mem_of_getElem? (i := 271) (by decide +kernel), List.mem_of_getElem? (i := 272) (by decide +kernel)⟩
theorem lw_p12 : lw_okq (⟨"BindingKernel$Pool", "hasResource", "(I)Z"⟩, 3) := ⟨⟨by decide +kernel, by decide +kernel⟩, List.mem_of_getElem? (i := 26) (by decide +kernel), List.mem_of_getElem? (i := 279) (by decide +kernel), List.mem_of_getElem? (i := 280) (by decide +kernel)⟩
theorem lw_p13 : lw_okq (⟨"BindingKernel$Application", "load", "(LBindingKernel$Slot;I)V"⟩, 8) := ⟨⟨by decide +kernel, by decide +kernel⟩, List.mem_of_getElem? (i := 99) (by decide +kernel), List.mem_of_getElem? (i := 286) (by decide +kernel), List.mem_of_getElem? (i := 287) (by decide +kernel)⟩
theorem lw_p14 : lw_okq (⟨"BindingKernel$Application", "changeWord", "(LBindingKernel$Slot;II)Z"⟩, 8) := ⟨⟨by decide +kernel, by decide +kernel⟩, List.mem_of_getElem? (i := 99) (by decide +kernel), List.mem_of_getElem? (i := 290) (by decide +kernel), List.mem_of_getElem? (i := 291) (by decide +kernel)⟩
theorem lw_p15 : lw_okq (⟨"BindingKernel$Pool", "hasWord", "(II)Z"⟩, 3) := ⟨⟨by decide +kernel, by decide +kernel⟩, List.mem_of_getElem? (i := 26) (by decide +kernel), List.mem_of_getElem? (i := 298) (by decide +kernel), List.mem_of_getElem? (i := 299) (by decide +kernel)⟩
def lw_privs_1 : List (MethodName × Nat) := [(⟨"BindingKernel", "applicationOf", "(I)LBindingKernel$Application;"⟩, 2), (⟨"BindingKernel$Application", "makeRoomForWord", "(I)Z"⟩, 8), (⟨"BindingKernel$Kernel", "claim", "(IZ)I"⟩, 5), (⟨"BindingKernel$Kernel", "earliestDeadline", "(Z)I"⟩, 5), (⟨"BindingKernel$Kernel", "askRicherGuest", "(Z)V"⟩, 5), (⟨"BindingKernel$Guest", "poolOf", "(I)LBindingKernel$Pool;"⟩, 8), (⟨"BindingKernel$Application", "openPartOf", "(II)LBindingKernel$Slot;"⟩, 8), (⟨"BindingKernel$Application", "slotFor", "(I)LBindingKernel$Slot;"⟩, 8), (⟨"BindingKernel$Application", "slotOf", "(I)LBindingKernel$Slot;"⟩, 8), (⟨"BindingKernel$Application", "oldestSlot", "()LBindingKernel$Slot;"⟩, 8), (⟨"BindingKernel$Application", "storeIfChanged", "(LBindingKernel$Slot;)V"⟩, 8), (⟨"BindingKernel$Application", "blockOf", "(I)I"⟩, 8), (⟨"BindingKernel$Pool", "hasResource", "(I)Z"⟩, 3), (⟨"BindingKernel$Application", "load", "(LBindingKernel$Slot;I)V"⟩, 8), (⟨"BindingKernel$Application", "changeWord", "(LBindingKernel$Slot;II)Z"⟩, 8), (⟨"BindingKernel$Pool", "hasWord", "(II)Z"⟩, 3)]
theorem lw_r1 : ∀ q ∈ lw_privs_1, lw_okq q := List.forall_mem_cons.mpr ⟨lw_p0, List.forall_mem_cons.mpr ⟨lw_p1, List.forall_mem_cons.mpr ⟨lw_p2, List.forall_mem_cons.mpr ⟨lw_p3, List.forall_mem_cons.mpr ⟨lw_p4, List.forall_mem_cons.mpr ⟨lw_p5, List.forall_mem_cons.mpr ⟨lw_p6, List.forall_mem_cons.mpr ⟨lw_p7, List.forall_mem_cons.mpr ⟨lw_p8, List.forall_mem_cons.mpr ⟨lw_p9, List.forall_mem_cons.mpr ⟨lw_p10, List.forall_mem_cons.mpr ⟨lw_p11, List.forall_mem_cons.mpr ⟨lw_p12, List.forall_mem_cons.mpr ⟨lw_p13, List.forall_mem_cons.mpr ⟨lw_p14, List.forall_mem_cons.mpr ⟨lw_p15, fun _ h => absurd h List.not_mem_nil⟩⟩⟩⟩⟩⟩⟩⟩⟩⟩⟩⟩⟩⟩⟩⟩
theorem lw_p16 : lw_okq (⟨"BindingKernel$Application", "dropPart", "(I)V"⟩, 8) := ⟨⟨by decide +kernel, by decide +kernel⟩, List.mem_of_getElem? (i := 99) (by decide +kernel), List.mem_of_getElem? (i := 338) (by decide +kernel), List.mem_of_getElem? (i := 339) (by decide +kernel)⟩
theorem lw_p17 : lw_okq (⟨"BindingKernel$Application", "giveFrameBack", "(LBindingKernel$Slot;)V"⟩, 8) := ⟨⟨by decide +kernel, by decide +kernel⟩, List.mem_of_getElem? (i := 99) (by decide +kernel), List.mem_of_getElem? (i := 342) (by decide +kernel), List.mem_of_getElem? (i := 343) (by decide +kernel)⟩
theorem lw_p18 : lw_okq (⟨"BindingKernel$Guest", "isLiveOf", "(IZ)Z"⟩, 8) := ⟨⟨by decide +kernel, by decide +kernel⟩, List.mem_of_getElem? (i := 46) (by decide +kernel), List.mem_of_getElem? (i := 393) (by decide +kernel), List.mem_of_getElem? (i := 394) (by decide +kernel)⟩
theorem lw_p19 : lw_okq (⟨"BindingKernel$Guest", "isLive", "(I)Z"⟩, 8) := ⟨⟨by decide +kernel, by decide +kernel⟩, List.mem_of_getElem? (i := 46) (by decide +kernel), List.mem_of_getElem? (i := 397) (by decide +kernel), List.mem_of_getElem? (i := 398) (by decide +kernel)⟩
theorem lw_p20 : lw_okq (⟨"BindingKernelModel", "count", "(IZ)I"⟩, 14) := ⟨⟨by decide +kernel, by decide +kernel⟩, List.mem_of_getElem? (i := 479) (by decide +kernel), List.mem_of_getElem? (i := 532) (by decide +kernel), List.mem_of_getElem? (i := 533) (by decide +kernel)⟩
theorem lw_p21 : lw_okq (⟨"BindingKernelModel", "liveOf", "(IZ)I"⟩, 14) := ⟨⟨by decide +kernel, by decide +kernel⟩, List.mem_of_getElem? (i := 479) (by decide +kernel), List.mem_of_getElem? (i := 536) (by decide +kernel), List.mem_of_getElem? (i := 537) (by decide +kernel)⟩
theorem lw_p22 : lw_okq (⟨"BindingKernelModel", "blocksOf", "(I)I"⟩, 14) := ⟨⟨by decide +kernel, by decide +kernel⟩, List.mem_of_getElem? (i := 479) (by decide +kernel), List.mem_of_getElem? (i := 540) (by decide +kernel), List.mem_of_getElem? (i := 541) (by decide +kernel)⟩
theorem lw_p23 : lw_okq (⟨"BindingKernelModel", "noFile", "(II)Z"⟩, 14) := ⟨⟨by decide +kernel, by decide +kernel⟩, List.mem_of_getElem? (i := 479) (by decide +kernel), List.mem_of_getElem? (i := 555) (by decide +kernel), List.mem_of_getElem? (i := 556) (by decide +kernel)⟩
theorem lw_p24 : lw_okq (⟨"BindingKernelModel", "claim", "(Z)V"⟩, 14) := ⟨⟨by decide +kernel, by decide +kernel⟩, List.mem_of_getElem? (i := 479) (by decide +kernel), List.mem_of_getElem? (i := 559) (by decide +kernel), List.mem_of_getElem? (i := 560) (by decide +kernel)⟩
theorem lw_p25 : lw_okq (⟨"BindingKernelModel", "wish", "(Z)V"⟩, 14) := ⟨⟨by decide +kernel, by decide +kernel⟩, List.mem_of_getElem? (i := 479) (by decide +kernel), List.mem_of_getElem? (i := 564) (by decide +kernel), List.mem_of_getElem? (i := 565) (by decide +kernel)⟩
theorem lw_p26 : lw_okq (⟨"BindingKernelModel", "earliest", "(Z)I"⟩, 14) := ⟨⟨by decide +kernel, by decide +kernel⟩, List.mem_of_getElem? (i := 479) (by decide +kernel), List.mem_of_getElem? (i := 568) (by decide +kernel), List.mem_of_getElem? (i := 569) (by decide +kernel)⟩
theorem lw_p27 : lw_okq (⟨"BindingKernelModel", "mark", "(I)V"⟩, 14) := ⟨⟨by decide +kernel, by decide +kernel⟩, List.mem_of_getElem? (i := 479) (by decide +kernel), List.mem_of_getElem? (i := 572) (by decide +kernel), List.mem_of_getElem? (i := 573) (by decide +kernel)⟩
theorem lw_p28 : lw_okq (⟨"BindingKernelModel", "moveTo", "(I)I"⟩, 14) := ⟨⟨by decide +kernel, by decide +kernel⟩, List.mem_of_getElem? (i := 479) (by decide +kernel), List.mem_of_getElem? (i := 576) (by decide +kernel), List.mem_of_getElem? (i := 577) (by decide +kernel)⟩
theorem lw_p29 : lw_okq (⟨"BindingKernelModel", "change", "(IIII)V"⟩, 14) := ⟨⟨by decide +kernel, by decide +kernel⟩, List.mem_of_getElem? (i := 479) (by decide +kernel), List.mem_of_getElem? (i := 580) (by decide +kernel), List.mem_of_getElem? (i := 581) (by decide +kernel)⟩
theorem lw_p30 : lw_okq (⟨"BindingKernelModel", "open", "(III)V"⟩, 14) := ⟨⟨by decide +kernel, by decide +kernel⟩, List.mem_of_getElem? (i := 479) (by decide +kernel), List.mem_of_getElem? (i := 584) (by decide +kernel), List.mem_of_getElem? (i := 585) (by decide +kernel)⟩
theorem lw_p31 : lw_okq (⟨"BindingKernelModel", "find", "(II)I"⟩, 14) := ⟨⟨by decide +kernel, by decide +kernel⟩, List.mem_of_getElem? (i := 479) (by decide +kernel), List.mem_of_getElem? (i := 588) (by decide +kernel), List.mem_of_getElem? (i := 589) (by decide +kernel)⟩
def lw_privs_2 : List (MethodName × Nat) := [(⟨"BindingKernel$Application", "dropPart", "(I)V"⟩, 8), (⟨"BindingKernel$Application", "giveFrameBack", "(LBindingKernel$Slot;)V"⟩, 8), (⟨"BindingKernel$Guest", "isLiveOf", "(IZ)Z"⟩, 8), (⟨"BindingKernel$Guest", "isLive", "(I)Z"⟩, 8), (⟨"BindingKernelModel", "count", "(IZ)I"⟩, 14), (⟨"BindingKernelModel", "liveOf", "(IZ)I"⟩, 14), (⟨"BindingKernelModel", "blocksOf", "(I)I"⟩, 14), (⟨"BindingKernelModel", "noFile", "(II)Z"⟩, 14), (⟨"BindingKernelModel", "claim", "(Z)V"⟩, 14), (⟨"BindingKernelModel", "wish", "(Z)V"⟩, 14), (⟨"BindingKernelModel", "earliest", "(Z)I"⟩, 14), (⟨"BindingKernelModel", "mark", "(I)V"⟩, 14), (⟨"BindingKernelModel", "moveTo", "(I)I"⟩, 14), (⟨"BindingKernelModel", "change", "(IIII)V"⟩, 14), (⟨"BindingKernelModel", "open", "(III)V"⟩, 14), (⟨"BindingKernelModel", "find", "(II)I"⟩, 14)]
theorem lw_r2 : ∀ q ∈ lw_privs_2, lw_okq q := List.forall_mem_cons.mpr ⟨lw_p16, List.forall_mem_cons.mpr ⟨lw_p17, List.forall_mem_cons.mpr ⟨lw_p18, List.forall_mem_cons.mpr ⟨lw_p19, List.forall_mem_cons.mpr ⟨lw_p20, List.forall_mem_cons.mpr ⟨lw_p21, List.forall_mem_cons.mpr ⟨lw_p22, List.forall_mem_cons.mpr ⟨lw_p23, List.forall_mem_cons.mpr ⟨lw_p24, List.forall_mem_cons.mpr ⟨lw_p25, List.forall_mem_cons.mpr ⟨lw_p26, List.forall_mem_cons.mpr ⟨lw_p27, List.forall_mem_cons.mpr ⟨lw_p28, List.forall_mem_cons.mpr ⟨lw_p29, List.forall_mem_cons.mpr ⟨lw_p30, List.forall_mem_cons.mpr ⟨lw_p31, fun _ h => absurd h List.not_mem_nil⟩⟩⟩⟩⟩⟩⟩⟩⟩⟩⟩⟩⟩⟩⟩⟩
theorem lw_p32 : lw_okq (⟨"BindingKernelModel", "remove", "(II)V"⟩, 14) := ⟨⟨by decide +kernel, by decide +kernel⟩, List.mem_of_getElem? (i := 479) (by decide +kernel), List.mem_of_getElem? (i := 592) (by decide +kernel), List.mem_of_getElem? (i := 593) (by decide +kernel)⟩
theorem lw_p33 : lw_okq (⟨"BindingKernelModel", "add", "(IIZ)V"⟩, 14) := ⟨⟨by decide +kernel, by decide +kernel⟩, List.mem_of_getElem? (i := 479) (by decide +kernel), List.mem_of_getElem? (i := 596) (by decide +kernel), List.mem_of_getElem? (i := 597) (by decide +kernel)⟩
theorem lw_p34 : lw_okq (⟨"BindingKernelModel", "storeAt", "(I)V"⟩, 14) := ⟨⟨by decide +kernel, by decide +kernel⟩, List.mem_of_getElem? (i := 479) (by decide +kernel), List.mem_of_getElem? (i := 600) (by decide +kernel), List.mem_of_getElem? (i := 601) (by decide +kernel)⟩
theorem lw_p35 : lw_okq (⟨"BindingKernelModel", "noWord", "(III)Z"⟩, 14) := ⟨⟨by decide +kernel, by decide +kernel⟩, List.mem_of_getElem? (i := 479) (by decide +kernel), List.mem_of_getElem? (i := 608) (by decide +kernel), List.mem_of_getElem? (i := 609) (by decide +kernel)⟩
theorem lw_p36 : lw_okq (⟨"BindingKernelModel", "live", "(II)I"⟩, 14) := ⟨⟨by decide +kernel, by decide +kernel⟩, List.mem_of_getElem? (i := 479) (by decide +kernel), List.mem_of_getElem? (i := 640) (by decide +kernel), List.mem_of_getElem? (i := 641) (by decide +kernel)⟩
def lw_privs_3 : List (MethodName × Nat) := [(⟨"BindingKernelModel", "remove", "(II)V"⟩, 14), (⟨"BindingKernelModel", "add", "(IIZ)V"⟩, 14), (⟨"BindingKernelModel", "storeAt", "(I)V"⟩, 14), (⟨"BindingKernelModel", "noWord", "(III)Z"⟩, 14), (⟨"BindingKernelModel", "live", "(II)I"⟩, 14)]
theorem lw_r3 : ∀ q ∈ lw_privs_3, lw_okq q := List.forall_mem_cons.mpr ⟨lw_p32, List.forall_mem_cons.mpr ⟨lw_p33, List.forall_mem_cons.mpr ⟨lw_p34, List.forall_mem_cons.mpr ⟨lw_p35, List.forall_mem_cons.mpr ⟨lw_p36, fun _ h => absurd h List.not_mem_nil⟩⟩⟩⟩⟩
def lw_privs : List (MethodName × Nat) := lw_privs_1 ++ (lw_privs_2 ++ (lw_privs_3))
def lw_tbl : List Cond := k2_sels lw_privs ++ tables_1
theorem lw_privs_ok : ∀ q ∈ lw_privs, lw_okq q := by
  show ∀ q ∈ lw_privs_1 ++ (lw_privs_2 ++ (lw_privs_3)), lw_okq q
  exact List.forall_mem_append.mpr ⟨lw_r1, List.forall_mem_append.mpr ⟨lw_r2, lw_r3⟩⟩
end
section
/-! a flat memory: row k is cell k; values; states of the small machine -/
abbrev kb_v : Type := Int32 ⊕ Option Nat
abbrev kb_M : Type := Nat → Nat → Int32
abbrev kb_T : Type := Nat × List (Option kb_v) × List kb_v × kb_M
abbrev kb_S : Type := Nat × kb_T
abbrev kb_R : Type := Option kb_v × kb_M
abbrev kb_O : Type := kb_T ⊕ (Bool × kb_R) ⊕ (Nat × List kb_v × kb_T) ⊕ (Bool × kb_T × kb_T) ⊕ (Bool × kb_T)
/-- a cell's shape: an array (kind, length, its references) or an object (number of its kind, its fields: a number, or a reference that stays) -/
abbrev kb_sh : Type := (Nat × Nat × List (Option Nat)) ⊕ (Nat × List (Option (Option Nat)))
/-- a method: name, bytes, locals, answer, number of its kind, parameters, static, frames, words of locals, instructions -/
abbrev kb_m : Type := MethodName × ByteArray × Nat × Option FieldType × Nat × Nat × Bool × Nat × Nat × List (Nat × Jvm.ClassFile.Instr)
def kb_ro (M : kb_M) (k : Nat) (r : Nat → Int32) : kb_M := fun a => if a = k then r else M a
def kb_up (M : kb_M) (k i : Nat) (x : Int32) : kb_M := kb_ro M k (upd (M k) i x)
def kb_lk {α : Type} : List (Nat × α) → Nat → Option α
  | [], _ => none
  | (a, b) :: l, n => cond (Nat.beq a n) (some b) (kb_lk l n)
theorem kb_lk_mem {α : Type} : ∀ {l : List (Nat × α)} {n : Nat} {b : α}, kb_lk l n = some b → (n, b) ∈ l := by
  intro l
  induction l with
  | nil => intro n b h; cases h
  | cons q l ih =>
    intro n b h
    obtain ⟨a, c⟩ := q
    unfold kb_lk at h
    cases hq : Nat.beq a n with
    | true =>
      rw [hq] at h
      have e := Nat.eq_of_beq_eq_true hq
      subst e
      have h : some c = some b := h
      cases h
      exact List.mem_cons_self
    | false =>
      rw [hq] at h
      exact List.mem_cons_of_mem _ (ih h)
def kb_len (i : Jvm.ClassFile.Instr) : Nat := match i with
  | .bipush _ => 2
  | .sipush _ => 3
  | .ldc _ => 2
  | .iload _ => 2
  | .aload _ => 2
  | .istore _ => 2
  | .astore _ => 2
  | .iinc _ _ => 3
  | .goto _ => 3
  | .ifCond _ _ => 3
  | .if_icmp _ _ => 3
  | .ifnull _ => 3
  | .ifnonnull _ => 3
  | .getfield _ => 3
  | .putfield _ => 3
  | .invokevirtual _ => 3
  | .invokestatic _ => 3
  | _ => 1
end
section
/-! names: printed by wip/whole/gen_names.py; pool numbers, code names and program counters stand here alone -/
def R_BK : String := "BindingKernel"
def F_BK : u_T := fun k => match k with
  | 0 => ("BindingKernel", "kernel", "LBindingKernel$Kernel;", true)
  | _ => ("BindingKernel", "applications", "[LBindingKernel$Application;", true)
def t_BK : Nat → FieldType := fun k => match k with
  | 0 => .object "BindingKernel$Kernel"
  | _ => .array (.object "BindingKernel$Application")
def R_Kernel : String := "BindingKernel$Kernel"
def F_Kernel : u_T := fun k => match k with
  | 0 => ("BindingKernel$Kernel", "now", "I", false)
  | 1 => ("BindingKernel$Kernel", "frames", "LBindingKernel$Pool;", true)
  | 2 => ("BindingKernel$Kernel", "blocks", "LBindingKernel$Pool;", true)
  | 3 => ("BindingKernel$Kernel", "firstGuest", "LBindingKernel$Guest;", true)
  | _ => ("BindingKernel$Kernel", "secondGuest", "LBindingKernel$Guest;", true)
def t_Kernel : Nat → FieldType := fun k => match k with
  | 0 => .int
  | 1 => .object "BindingKernel$Pool"
  | 2 => .object "BindingKernel$Pool"
  | 3 => .object "BindingKernel$Guest"
  | _ => .object "BindingKernel$Guest"
def R_Pool : String := "BindingKernel$Pool"
def F_Pool : u_T := fun k => match k with
  | 0 => ("BindingKernel$Pool", "share", "I", true)
  | 1 => ("BindingKernel$Pool", "holders", "[I", true)
  | _ => ("BindingKernel$Pool", "words", "[I", true)
def t_Pool : Nat → FieldType := fun k => match k with
  | 0 => .int
  | 1 => .array .int
  | _ => .array .int
def R_Guest : String := "BindingKernel$Guest"
def F_Guest : u_T := fun k => match k with
  | 0 => ("BindingKernel$Guest", "lossCount", "I", false)
  | 1 => ("BindingKernel$Guest", "frames", "LBindingKernel$Pool;", true)
  | 2 => ("BindingKernel$Guest", "blocks", "LBindingKernel$Pool;", true)
  | 3 => ("BindingKernel$Guest", "ofBlocks", "[Z", true)
  | 4 => ("BindingKernel$Guest", "resources", "[I", true)
  | 5 => ("BindingKernel$Guest", "states", "[I", true)
  | 6 => ("BindingKernel$Guest", "deadlines", "[I", true)
  | _ => ("BindingKernel$Guest", "ticketCount", "I", false)
def t_Guest : Nat → FieldType := fun k => match k with
  | 0 => .int
  | 1 => .object "BindingKernel$Pool"
  | 2 => .object "BindingKernel$Pool"
  | 3 => .array .boolean
  | 4 => .array .int
  | 5 => .array .int
  | 6 => .array .int
  | _ => .int
def R_App : String := "BindingKernel$Application"
def F_App : u_T := fun k => match k with
  | 0 => ("BindingKernel$Application", "loadCount", "I", false)
  | 1 => ("BindingKernel$Application", "storeCount", "I", false)
  | 2 => ("BindingKernel$Application", "kernel", "LBindingKernel$Kernel;", true)
  | 3 => ("BindingKernel$Application", "environment", "I", true)
  | 4 => ("BindingKernel$Application", "lengths", "[I", true)
  | 5 => ("BindingKernel$Application", "partBlocks", "[I", true)
  | 6 => ("BindingKernel$Application", "slots", "[LBindingKernel$Slot;", true)
  | _ => ("BindingKernel$Application", "useCount", "I", false)
def t_App : Nat → FieldType := fun k => match k with
  | 0 => .int
  | 1 => .int
  | 2 => .object "BindingKernel$Kernel"
  | 3 => .int
  | 4 => .array .int
  | 5 => .array .int
  | 6 => .array (.object "BindingKernel$Slot")
  | _ => .int
def R_Slot : String := "BindingKernel$Slot"
def F_Slot : u_T := fun k => match k with
  | 0 => ("BindingKernel$Slot", "frame", "I", false)
  | 1 => ("BindingKernel$Slot", "part", "I", false)
  | 2 => ("BindingKernel$Slot", "lastUse", "I", false)
  | _ => ("BindingKernel$Slot", "changed", "Z", false)
def t_Slot : Nat → FieldType := fun k => match k with
  | 0 => .int
  | 1 => .int
  | 2 => .int
  | _ => .boolean
def R_Model : String := "BindingKernelModel"
def F_Model : u_T := fun k => match k with
  | 0 => ("BindingKernelModel", "now", "I", false)
  | 1 => ("BindingKernelModel", "storedCount", "I", false)
  | 2 => ("BindingKernelModel", "loadedCount", "I", false)
  | 3 => ("BindingKernelModel", "words", "[I", false)
  | 4 => ("BindingKernelModel", "size", "[I", false)
  | 5 => ("BindingKernelModel", "cached", "[I", false)
  | 6 => ("BindingKernelModel", "changed", "[Z", false)
  | 7 => ("BindingKernelModel", "frames", "[I", false)
  | 8 => ("BindingKernelModel", "bound", "[I", false)
  | 9 => ("BindingKernelModel", "lost", "[I", false)
  | 10 => ("BindingKernelModel", "isBlock", "[Z", false)
  | 11 => ("BindingKernelModel", "state", "[I", false)
  | 12 => ("BindingKernelModel", "deadline", "[I", false)
  | _ => ("BindingKernelModel", "held", "[I", false)
def t_Model : Nat → FieldType := fun k => match k with
  | 0 => .int
  | 1 => .int
  | 2 => .int
  | 3 => .array .int
  | 4 => .array .int
  | 5 => .array .int
  | 6 => .array .boolean
  | 7 => .array .int
  | 8 => .array .int
  | 9 => .array .int
  | 10 => .array .boolean
  | 11 => .array .int
  | 12 => .array .int
  | _ => .array .int
abbrev kb_cl : List vw_C := [(R_BK, F_BK, 2), (R_Kernel, F_Kernel, 5), (R_Pool, F_Pool, 3), (R_Guest, F_Guest, 8), (R_App, F_App, 8), (R_Slot, F_Slot, 4), (R_Model, F_Model, 14)]
def kb_cn (o : Nat) : String := match o with
  | 0 => R_BK
  | 1 => R_Kernel
  | 2 => R_Pool
  | 3 => R_Guest
  | 4 => R_App
  | 5 => R_Slot
  | 6 => R_Model
  | _ => ""
def kb_ty (cA : Nat → ClassId) : List (ClassId × FieldType) := [(cA 0, .int), (cA 1, .boolean), (cA 2, .object R_Slot), (cA 3, .object R_App)]
def kb_n : Nat := 45
def kb_ceL : List (Nat × kb_sh) := [(0, .inr (0, [some (some 1), some (some 2)])), (1, .inr (1, [none, some (some 3), some (some 6), some (some 9), some (some 14)])), (2, .inl (3, 2, [some 19, some 26])), (3, .inr (2, [none, some (some 4), some (some 5)])), (4, .inl (0, 12, [])), (5, .inl (0, 48, [])), (6, .inr (2, [none, some (some 7), some (some 8)])), (7, .inl (0, 24, [])), (8, .inl (0, 96, [])), (9, .inr (3, [none, some (some 3), some (some 6), some (some 10), some (some 11), some (some 12), some (some 13), none])), (10, .inl (1, 60, [])), (11, .inl (0, 60, [])), (12, .inl (0, 60, [])), (13, .inl (0, 60, [])), (14, .inr (3, [none, some (some 3), some (some 6), some (some 15), some (some 16), some (some 17), some (some 18), none])), (15, .inl (1, 60, [])), (16, .inl (0, 60, [])), (17, .inl (0, 60, [])), (18, .inl (0, 60, [])), (19, .inr (4, [none, none, some (some 1), none, some (some 20), some (some 21), some (some 22), none])), (20, .inl (0, 6, [])), (21, .inl (0, 36, [])), (22, .inl (2, 3, [some 23, some 24, some 25])), (23, .inr (5, [none, none, none, none])), (24, .inr (5, [none, none, none, none])), (25, .inr (5, [none, none, none, none])), (26, .inr (4, [none, none, some (some 1), none, some (some 27), some (some 28), some (some 29), none])), (27, .inl (0, 6, [])), (28, .inl (0, 36, [])), (29, .inl (2, 3, [some 30, some 31, some 32])), (30, .inr (5, [none, none, none, none])), (31, .inr (5, [none, none, none, none])), (32, .inr (5, [none, none, none, none])), (33, .inr (6, [none, none, none, some (some 34), some (some 35), some (some 36), some (some 37), some (some 38), some (some 39), some (some 40), some (some 41), some (some 42), some (some 43), some (some 44)])), (34, .inl (0, 288, [])), (35, .inl (0, 12, [])), (36, .inl (0, 6, [])), (37, .inl (1, 6, [])), (38, .inl (0, 2, [])), (39, .inl (0, 2, [])), (40, .inl (0, 2, [])), (41, .inl (1, 120, [])), (42, .inl (0, 120, [])), (43, .inl (0, 120, [])), (44, .inl (0, 480, []))]
def kb_cel (k : Nat) : Option kb_sh := kb_lk kb_ceL k
def kb_ceB (q : Nat × kb_sh) : Bool := Nat.blt q.1 kb_n && (match q.2 with | .inl (u, _, _) => Nat.blt u 4 | .inr _ => true)
theorem kb_ceP : kb_ceL.all kb_ceB = true := by decide +kernel
theorem kb_celA {k u n : Nat} {rs : List (Option Nat)} (h : kb_cel k = some (.inl (u, n, rs))) : k < kb_n ∧ u < 4 := by
  have h1 := List.all_eq_true.mp kb_ceP _ (kb_lk_mem h)
  unfold kb_ceB at h1
  rw [Bool.and_eq_true] at h1
  exact ⟨Nat.le_of_ble_eq_true h1.1, Nat.le_of_ble_eq_true h1.2⟩
theorem kb_celO {k : Nat} {q : Nat × List (Option (Option Nat))} (h : kb_cel k = some (.inr q)) : k < kb_n := by
  have h1 := List.all_eq_true.mp kb_ceP _ (kb_lk_mem h)
  unfold kb_ceB at h1
  rw [Bool.and_eq_true] at h1
  exact Nat.le_of_ble_eq_true h1.1
theorem kb_tyU (cA : Nat → ClassId) {u : Nat} (h : u < 4) : ∃ ty, (kb_ty cA)[u]? = some (cA u, ty) := by
  match u, h with
  | 0, _ => exact ⟨_, rfl⟩
  | 1, _ => exact ⟨_, rfl⟩
  | 2, _ => exact ⟨_, rfl⟩
  | 3, _ => exact ⟨_, rfl⟩
theorem kb_tyR (cA : Nat → ClassId) {u : Nat} (h : u < 4) (h2 : Nat.ble 2 u = true) : ∃ N, (kb_ty cA)[u]? = some (cA u, .object N) := by
  match u, h, h2 with
  | 2, _, _ => exact ⟨_, rfl⟩
  | 3, _, _ => exact ⟨_, rfl⟩
def kb_all : List Cond := lw_tbl.filter goodWord
theorem kb_all_in {w : Cond} (h : w ∈ lw_tbl) (hg : goodWord w = true) : w ∈ kb_all := List.mem_filter.mpr ⟨h, hg⟩
set_option maxRecDepth 100000 in
theorem u_BK : ∀ w ∈ u_ws R_BK F_BK 2, w ∈ kb_all := by
  intro w hw
  obtain ⟨k, hk, rfl⟩ := List.mem_map.mp hw
  have hk := List.mem_range.mp hk
  match k, hk with
  | 0, _ => exact kb_all_in (List.mem_of_getElem? (i := 193) rfl) rfl
  | 1, _ => exact kb_all_in (List.mem_of_getElem? (i := 195) rfl) rfl
set_option maxRecDepth 100000 in
theorem u_Kernel : ∀ w ∈ u_ws R_Kernel F_Kernel 5, w ∈ kb_all := by
  intro w hw
  obtain ⟨k, hk, rfl⟩ := List.mem_map.mp hw
  have hk := List.mem_range.mp hk
  match k, hk with
  | 0, _ => exact kb_all_in (List.mem_of_getElem? (i := 123) rfl) rfl
  | 1, _ => exact kb_all_in (List.mem_of_getElem? (i := 125) rfl) rfl
  | 2, _ => exact kb_all_in (List.mem_of_getElem? (i := 127) rfl) rfl
  | 3, _ => exact kb_all_in (List.mem_of_getElem? (i := 129) rfl) rfl
  | 4, _ => exact kb_all_in (List.mem_of_getElem? (i := 131) rfl) rfl
set_option maxRecDepth 100000 in
theorem u_Pool : ∀ w ∈ u_ws R_Pool F_Pool 3, w ∈ kb_all := by
  intro w hw
  obtain ⟨k, hk, rfl⟩ := List.mem_map.mp hw
  have hk := List.mem_range.mp hk
  match k, hk with
  | 0, _ => exact kb_all_in (List.mem_of_getElem? (i := 74) rfl) rfl
  | 1, _ => exact kb_all_in (List.mem_of_getElem? (i := 76) rfl) rfl
  | 2, _ => exact kb_all_in (List.mem_of_getElem? (i := 78) rfl) rfl
set_option maxRecDepth 100000 in
theorem u_Guest : ∀ w ∈ u_ws R_Guest F_Guest 8, w ∈ kb_all := by
  intro w hw
  obtain ⟨k, hk, rfl⟩ := List.mem_map.mp hw
  have hk := List.mem_range.mp hk
  match k, hk with
  | 0, _ => exact kb_all_in (List.mem_of_getElem? (i := 97) rfl) rfl
  | 1, _ => exact kb_all_in (List.mem_of_getElem? (i := 99) rfl) rfl
  | 2, _ => exact kb_all_in (List.mem_of_getElem? (i := 101) rfl) rfl
  | 3, _ => exact kb_all_in (List.mem_of_getElem? (i := 103) rfl) rfl
  | 4, _ => exact kb_all_in (List.mem_of_getElem? (i := 105) rfl) rfl
  | 5, _ => exact kb_all_in (List.mem_of_getElem? (i := 107) rfl) rfl
  | 6, _ => exact kb_all_in (List.mem_of_getElem? (i := 109) rfl) rfl
  | 7, _ => exact kb_all_in (List.mem_of_getElem? (i := 111) rfl) rfl
set_option maxRecDepth 100000 in
theorem u_App : ∀ w ∈ u_ws R_App F_App 8, w ∈ kb_all := by
  intro w hw
  obtain ⟨k, hk, rfl⟩ := List.mem_map.mp hw
  have hk := List.mem_range.mp hk
  match k, hk with
  | 0, _ => exact kb_all_in (List.mem_of_getElem? (i := 174) rfl) rfl
  | 1, _ => exact kb_all_in (List.mem_of_getElem? (i := 176) rfl) rfl
  | 2, _ => exact kb_all_in (List.mem_of_getElem? (i := 178) rfl) rfl
  | 3, _ => exact kb_all_in (List.mem_of_getElem? (i := 180) rfl) rfl
  | 4, _ => exact kb_all_in (List.mem_of_getElem? (i := 182) rfl) rfl
  | 5, _ => exact kb_all_in (List.mem_of_getElem? (i := 184) rfl) rfl
  | 6, _ => exact kb_all_in (List.mem_of_getElem? (i := 186) rfl) rfl
  | 7, _ => exact kb_all_in (List.mem_of_getElem? (i := 188) rfl) rfl
set_option maxRecDepth 100000 in
theorem u_Slot : ∀ w ∈ u_ws R_Slot F_Slot 4, w ∈ kb_all := by
  intro w hw
  obtain ⟨k, hk, rfl⟩ := List.mem_map.mp hw
  have hk := List.mem_range.mp hk
  match k, hk with
  | 0, _ => exact kb_all_in (List.mem_of_getElem? (i := 155) rfl) rfl
  | 1, _ => exact kb_all_in (List.mem_of_getElem? (i := 157) rfl) rfl
  | 2, _ => exact kb_all_in (List.mem_of_getElem? (i := 159) rfl) rfl
  | 3, _ => exact kb_all_in (List.mem_of_getElem? (i := 161) rfl) rfl
set_option maxRecDepth 100000 in
theorem u_Model : ∀ w ∈ u_ws R_Model F_Model 14, w ∈ kb_all := by
  intro w hw
  obtain ⟨k, hk, rfl⟩ := List.mem_map.mp hw
  have hk := List.mem_range.mp hk
  match k, hk with
  | 0, _ => exact kb_all_in (List.mem_of_getElem? (i := 535) rfl) rfl
  | 1, _ => exact kb_all_in (List.mem_of_getElem? (i := 537) rfl) rfl
  | 2, _ => exact kb_all_in (List.mem_of_getElem? (i := 539) rfl) rfl
  | 3, _ => exact kb_all_in (List.mem_of_getElem? (i := 541) rfl) rfl
  | 4, _ => exact kb_all_in (List.mem_of_getElem? (i := 543) rfl) rfl
  | 5, _ => exact kb_all_in (List.mem_of_getElem? (i := 545) rfl) rfl
  | 6, _ => exact kb_all_in (List.mem_of_getElem? (i := 547) rfl) rfl
  | 7, _ => exact kb_all_in (List.mem_of_getElem? (i := 549) rfl) rfl
  | 8, _ => exact kb_all_in (List.mem_of_getElem? (i := 551) rfl) rfl
  | 9, _ => exact kb_all_in (List.mem_of_getElem? (i := 553) rfl) rfl
  | 10, _ => exact kb_all_in (List.mem_of_getElem? (i := 555) rfl) rfl
  | 11, _ => exact kb_all_in (List.mem_of_getElem? (i := 557) rfl) rfl
  | 12, _ => exact kb_all_in (List.mem_of_getElem? (i := 559) rfl) rfl
  | 13, _ => exact kb_all_in (List.mem_of_getElem? (i := 561) rfl) rfl
theorem kb_clok {ci n : Nat} {N : String} {T : u_T} (h : kb_cl[ci]? = some (N, T, n)) : (∃ ty0 : Nat → FieldType, ∀ k, k < n → parseFieldDescriptor (T k).2.2.1 = some (ty0 k)) ∧ (∀ a, a < n → ∀ b, b < n → a ≠ b → (T a).2.1 ≠ (T b).2.1) := by
  match ci, h with
  | 0, h => cases h; exact ⟨⟨t_BK, by decide +kernel⟩, by decide +kernel⟩
  | 1, h => cases h; exact ⟨⟨t_Kernel, by decide +kernel⟩, by decide +kernel⟩
  | 2, h => cases h; exact ⟨⟨t_Pool, by decide +kernel⟩, by decide +kernel⟩
  | 3, h => cases h; exact ⟨⟨t_Guest, by decide +kernel⟩, by decide +kernel⟩
  | 4, h => cases h; exact ⟨⟨t_App, by decide +kernel⟩, by decide +kernel⟩
  | 5, h => cases h; exact ⟨⟨t_Slot, by decide +kernel⟩, by decide +kernel⟩
  | 6, h => cases h; exact ⟨⟨t_Model, by decide +kernel⟩, by decide +kernel⟩
  | n + 7, h => cases h
abbrev kz_BK_append : Nat := 0
def ki_BK_append : List (Nat × Jvm.ClassFile.Instr) := [(0, .aload_n 0), (1, .iload_n 1), (2, .invokevirtual 25), (5, .astore 4), (7, .aload 4), (9, .ifnull (17)), (12, .aload 4), (14, .iload_n 2), (15, .iload_n 3), (16, .invokevirtual 29), (19, .ifCond .eq (7)), (22, .iconst 1), (23, .goto (4)), (26, .iconst 0), (27, .ireturn)]
def ke_BK_append : kb_m := (⟨"BindingKernel", "append", "(III)Z"⟩, prog_1_method_2_code, 5, some .boolean, 0, 3, false, 6, 155, ki_BK_append)
abbrev kz_BK_write : Nat := 1
def ki_BK_write : List (Nat × Jvm.ClassFile.Instr) := [(0, .aload_n 0), (1, .iload_n 1), (2, .invokevirtual 25), (5, .astore 5), (7, .aload 5), (9, .ifnull (19)), (12, .aload 5), (14, .iload_n 2), (15, .iload_n 3), (16, .iload 4), (18, .invokevirtual 33), (21, .ifCond .eq (7)), (24, .iconst 1), (25, .goto (4)), (28, .iconst 0), (29, .ireturn)]
def ke_BK_write : kb_m := (⟨"BindingKernel", "write", "(IIII)Z"⟩, prog_1_method_3_code, 6, some .boolean, 0, 4, false, 6, 155, ki_BK_write)
abbrev kz_BK_read : Nat := 2
def ki_BK_read : List (Nat × Jvm.ClassFile.Instr) := [(0, .aload_n 0), (1, .iload_n 1), (2, .invokevirtual 25), (5, .astore 4), (7, .aload 4), (9, .ifnonnull (7)), (12, .iconst 0), (13, .goto (10)), (16, .aload 4), (18, .iload_n 2), (19, .iload_n 3), (20, .invokevirtual 37), (23, .ireturn)]
def ke_BK_read : kb_m := (⟨"BindingKernel", "read", "(III)I"⟩, prog_1_method_4_code, 5, some .int, 0, 3, false, 6, 155, ki_BK_read)
abbrev kz_BK_length : Nat := 3
def ki_BK_length : List (Nat × Jvm.ClassFile.Instr) := [(0, .aload_n 0), (1, .iload_n 1), (2, .invokevirtual 25), (5, .astore_n 3), (6, .aload_n 3), (7, .ifnonnull (7)), (10, .iconst (-1)), (11, .goto (8)), (14, .aload_n 3), (15, .iload_n 2), (16, .invokevirtual 41), (19, .ireturn)]
def ke_BK_length : kb_m := (⟨"BindingKernel", "length", "(II)I"⟩, prog_1_method_5_code, 4, some .int, 0, 2, false, 2, 41, ki_BK_length)
abbrev kz_BK_erase : Nat := 4
def ki_BK_erase : List (Nat × Jvm.ClassFile.Instr) := [(0, .aload_n 0), (1, .iload_n 1), (2, .invokevirtual 25), (5, .astore_n 3), (6, .aload_n 3), (7, .ifnonnull (7)), (10, .iconst (-1)), (11, .goto (8)), (14, .aload_n 3), (15, .iload_n 2), (16, .invokevirtual 45), (19, .ireturn)]
def ke_BK_erase : kb_m := (⟨"BindingKernel", "erase", "(II)I"⟩, prog_1_method_6_code, 4, some .int, 0, 2, false, 4, 87, ki_BK_erase)
abbrev kz_BK_sync : Nat := 5
def ki_BK_sync : List (Nat × Jvm.ClassFile.Instr) := [(0, .aload_n 0), (1, .iload_n 1), (2, .invokevirtual 25), (5, .astore_n 2), (6, .aload_n 2), (7, .ifnonnull (7)), (10, .iconst (-1)), (11, .goto (7)), (14, .aload_n 2), (15, .invokevirtual 48), (18, .ireturn)]
def ke_BK_sync : kb_m := (⟨"BindingKernel", "sync", "(I)I"⟩, prog_1_method_7_code, 3, some .int, 0, 1, false, 4, 109, ki_BK_sync)
abbrev kz_BK_squeeze : Nat := 6
def ki_BK_squeeze : List (Nat × Jvm.ClassFile.Instr) := [(0, .aload_n 0), (1, .iload_n 1), (2, .invokevirtual 25), (5, .astore_n 2), (6, .aload_n 2), (7, .ifnull (14)), (10, .aload_n 2), (11, .invokevirtual 52), (14, .ifCond .eq (7)), (17, .iconst 1), (18, .goto (4)), (21, .iconst 0), (22, .ireturn)]
def ke_BK_squeeze : kb_m := (⟨"BindingKernel", "squeeze", "(I)Z"⟩, prog_1_method_8_code, 3, some .boolean, 0, 1, false, 4, 105, ki_BK_squeeze)
abbrev kz_BK_bind : Nat := 7
def ki_BK_bind : List (Nat × Jvm.ClassFile.Instr) := [(0, .aload_n 0), (1, .getfield 12), (4, .iload_n 1), (5, .iload_n 2), (6, .invokevirtual 56), (9, .ireturn)]
def ke_BK_bind : kb_m := (⟨"BindingKernel", "bind", "(IZ)I"⟩, prog_1_method_9_code, 3, some .int, 0, 2, false, 4, 109, ki_BK_bind)
abbrev kz_BK_put : Nat := 8
def ki_BK_put : List (Nat × Jvm.ClassFile.Instr) := [(0, .aload_n 0), (1, .getfield 12), (4, .iload_n 1), (5, .invokevirtual 60), (8, .astore 5), (10, .aload 5), (12, .ifnull (19)), (15, .aload 5), (17, .iload_n 2), (18, .iload_n 3), (19, .iload 4), (21, .invokevirtual 64), (24, .ifCond .eq (7)), (27, .iconst 1), (28, .goto (4)), (31, .iconst 0), (32, .ireturn)]
def ke_BK_put : kb_m := (⟨"BindingKernel", "put", "(IIII)Z"⟩, prog_1_method_10_code, 6, some .boolean, 0, 4, false, 4, 89, ki_BK_put)
abbrev kz_BK_get : Nat := 9
def ki_BK_get : List (Nat × Jvm.ClassFile.Instr) := [(0, .aload_n 0), (1, .getfield 12), (4, .iload_n 1), (5, .invokevirtual 60), (8, .astore 4), (10, .aload 4), (12, .ifnonnull (7)), (15, .iconst 0), (16, .goto (10)), (19, .aload 4), (21, .iload_n 2), (22, .iload_n 3), (23, .invokevirtual 69), (26, .ireturn)]
def ke_BK_get : kb_m := (⟨"BindingKernel", "get", "(III)I"⟩, prog_1_method_11_code, 5, some .int, 0, 3, false, 4, 87, ki_BK_get)
abbrev kz_BK_copy : Nat := 10
def ki_BK_copy : List (Nat × Jvm.ClassFile.Instr) := [(0, .aload_n 0), (1, .getfield 12), (4, .iload_n 1), (5, .invokevirtual 60), (8, .astore 4), (10, .aload 4), (12, .ifnull (17)), (15, .aload 4), (17, .iload_n 2), (18, .iload_n 3), (19, .invokevirtual 72), (22, .ifCond .eq (7)), (25, .iconst 1), (26, .goto (4)), (29, .iconst 0), (30, .ireturn)]
def ke_BK_copy : kb_m := (⟨"BindingKernel", "copy", "(III)Z"⟩, prog_1_method_12_code, 5, some .boolean, 0, 3, false, 4, 87, ki_BK_copy)
abbrev kz_BK_release : Nat := 11
def ki_BK_release : List (Nat × Jvm.ClassFile.Instr) := [(0, .aload_n 0), (1, .getfield 12), (4, .iload_n 1), (5, .invokevirtual 60), (8, .astore_n 3), (9, .aload_n 3), (10, .ifnull (15)), (13, .aload_n 3), (14, .iload_n 2), (15, .invokevirtual 75), (18, .ifCond .eq (7)), (21, .iconst 1), (22, .goto (4)), (25, .iconst 0), (26, .ireturn)]
def ke_BK_release : kb_m := (⟨"BindingKernel", "release", "(II)Z"⟩, prog_1_method_13_code, 4, some .boolean, 0, 2, false, 3, 64, ki_BK_release)
abbrev kz_BK_ask : Nat := 12
def ki_BK_ask : List (Nat × Jvm.ClassFile.Instr) := [(0, .aload_n 0), (1, .getfield 12), (4, .iload_n 1), (5, .invokevirtual 60), (8, .astore_n 3), (9, .aload_n 3), (10, .ifnull (24)), (13, .aload_n 3), (14, .iload_n 2), (15, .aload_n 0), (16, .getfield 12), (19, .getfield 79), (22, .iconst 5), (23, .iadd), (24, .invokevirtual 83), (27, .ifCond .eq (7)), (30, .iconst 1), (31, .goto (4)), (34, .iconst 0), (35, .ireturn)]
def ke_BK_ask : kb_m := (⟨"BindingKernel", "ask", "(II)Z"⟩, prog_1_method_14_code, 4, some .boolean, 0, 2, false, 2, 43, ki_BK_ask)
abbrev kz_BK_state : Nat := 13
def ki_BK_state : List (Nat × Jvm.ClassFile.Instr) := [(0, .aload_n 0), (1, .getfield 12), (4, .iload_n 1), (5, .invokevirtual 60), (8, .astore_n 3), (9, .aload_n 3), (10, .ifnonnull (7)), (13, .iconst (-1)), (14, .goto (8)), (17, .aload_n 3), (18, .iload_n 2), (19, .invokevirtual 86), (22, .ireturn)]
def ke_BK_state : kb_m := (⟨"BindingKernel", "state", "(II)I"⟩, prog_1_method_15_code, 4, some .int, 0, 2, false, 1, 21, ki_BK_state)
abbrev kz_BK_pass : Nat := 14
def ki_BK_pass : List (Nat × Jvm.ClassFile.Instr) := [(0, .iload_n 1), (1, .iconst 1), (2, .if_icmp .lt (28)), (5, .iload_n 1), (6, .bipush 50), (8, .if_icmp .gt (22)), (11, .aload_n 0), (12, .getfield 12), (15, .aload_n 0), (16, .getfield 12), (19, .getfield 79), (22, .iload_n 1), (23, .iadd), (24, .invokevirtual 89), (27, .goto (4)), (30, .iconst (-1)), (31, .ireturn)]
def ke_BK_pass : kb_m := (⟨"BindingKernel", "pass", "(I)I"⟩, prog_1_method_16_code, 2, some .int, 0, 1, false, 3, 65, ki_BK_pass)
abbrev kz_BK_time : Nat := 15
def ki_BK_time : List (Nat × Jvm.ClassFile.Instr) := [(0, .aload_n 0), (1, .getfield 12), (4, .getfield 79), (7, .ireturn)]
def ke_BK_time : kb_m := (⟨"BindingKernel", "time", "()I"⟩, prog_1_method_17_code, 1, some .int, 0, 0, false, 0, 0, ki_BK_time)
abbrev kz_BK_free : Nat := 16
def ki_BK_free : List (Nat × Jvm.ClassFile.Instr) := [(0, .aload_n 0), (1, .getfield 12), (4, .iload_n 1), (5, .invokevirtual 92), (8, .invokevirtual 96), (11, .ireturn)]
def ke_BK_free : kb_m := (⟨"BindingKernel", "free", "(Z)I"⟩, prog_1_method_18_code, 2, some .int, 0, 1, false, 2, 46, ki_BK_free)
abbrev kz_BK_held : Nat := 17
def ki_BK_held : List (Nat × Jvm.ClassFile.Instr) := [(0, .iload_n 1), (1, .invokestatic 101), (4, .ifCond .eq (18)), (7, .aload_n 0), (8, .getfield 12), (11, .iload_n 2), (12, .invokevirtual 92), (15, .iload_n 1), (16, .invokevirtual 104), (19, .goto (4)), (22, .iconst (-1)), (23, .ireturn)]
def ke_BK_held : kb_m := (⟨"BindingKernel", "held", "(IZ)I"⟩, prog_1_method_19_code, 3, some .int, 0, 2, false, 1, 26, ki_BK_held)
abbrev kz_BK_losses : Nat := 18
def ki_BK_losses : List (Nat × Jvm.ClassFile.Instr) := [(0, .iload_n 1), (1, .invokestatic 101), (4, .ifCond .ne (5)), (7, .iconst (-1)), (8, .ireturn), (9, .aload_n 0), (10, .getfield 12), (13, .iload_n 1), (14, .invokevirtual 60), (17, .astore_n 2), (18, .aload_n 2), (19, .ifnonnull (7)), (22, .iconst 0), (23, .goto (7)), (26, .aload_n 2), (27, .getfield 107), (30, .ireturn)]
def ke_BK_losses : kb_m := (⟨"BindingKernel", "losses", "(I)I"⟩, prog_1_method_20_code, 3, some .int, 0, 1, false, 1, 21, ki_BK_losses)
abbrev kz_BK_transfers : Nat := 19
def ki_BK_transfers : List (Nat × Jvm.ClassFile.Instr) := [(0, .iconst 0), (1, .istore_n 2), (2, .aload_n 0), (3, .getfield 18), (6, .astore_n 3), (7, .aload_n 3), (8, .arraylength), (9, .istore 4), (11, .iconst 0), (12, .istore 5), (14, .iload 5), (16, .iload 4), (18, .if_icmp .ge (35)), (21, .aload_n 3), (22, .iload 5), (24, .aaload), (25, .astore 6), (27, .iload_n 2), (28, .iload_n 1), (29, .ifCond .eq (11)), (32, .aload 6), (34, .getfield 110), (37, .goto (8)), (40, .aload 6), (42, .getfield 113), (45, .iadd), (46, .istore_n 2), (47, .iinc 5 (1)), (50, .goto (-36)), (53, .iload_n 2), (54, .ireturn)]
def ke_BK_transfers : kb_m := (⟨"BindingKernel", "transfers", "(Z)I"⟩, prog_1_method_21_code, 7, some .int, 0, 1, false, 0, 0, ki_BK_transfers)
abbrev kz_BK_applicationOf : Nat := 20
def ki_BK_applicationOf : List (Nat × Jvm.ClassFile.Instr) := [(0, .iload_n 1), (1, .ifCond .lt (17)), (4, .iload_n 1), (5, .iconst 2), (6, .if_icmp .ge (12)), (9, .aload_n 0), (10, .getfield 18), (13, .iload_n 1), (14, .aaload), (15, .goto (4)), (18, .aconst_null), (19, .areturn)]
def ke_BK_applicationOf : kb_m := (⟨"BindingKernel", "applicationOf", "(I)LBindingKernel$Application;"⟩, prog_1_method_22_code, 2, some (.object "BindingKernel$Application"), 0, 1, false, 0, 0, ki_BK_applicationOf)
abbrev kz_BK_isEnvironment : Nat := 21
def ki_BK_isEnvironment : List (Nat × Jvm.ClassFile.Instr) := [(0, .iload_n 0), (1, .ifCond .lt (12)), (4, .iload_n 0), (5, .iconst 4), (6, .if_icmp .ge (7)), (9, .iconst 1), (10, .goto (4)), (13, .iconst 0), (14, .ireturn)]
def ke_BK_isEnvironment : kb_m := (⟨"BindingKernel", "isEnvironment", "(I)Z"⟩, prog_1_method_23_code, 1, some .boolean, 0, 1, true, 0, 0, ki_BK_isEnvironment)
abbrev kz_Model_within : Nat := 22
def ki_Model_within : List (Nat × Jvm.ClassFile.Instr) := [(0, .iload_n 0), (1, .iload_n 1), (2, .if_icmp .lt (12)), (5, .iload_n 0), (6, .iload_n 2), (7, .if_icmp .gt (7)), (10, .iconst 1), (11, .goto (4)), (14, .iconst 0), (15, .ireturn)]
def ke_Model_within : kb_m := (⟨"BindingKernelModel", "within", "(III)Z"⟩, prog_8_method_2_code, 3, some .boolean, 6, 3, true, 0, 0, ki_Model_within)
abbrev kz_Model_blocksOf : Nat := 23
def ki_Model_blocksOf : List (Nat × Jvm.ClassFile.Instr) := [(0, .iconst 0), (1, .istore_n 2), (2, .iconst 0), (3, .istore_n 3), (4, .iload_n 3), (5, .bipush 6), (7, .if_icmp .ge (27)), (10, .iload_n 2), (11, .aload_n 0), (12, .getfield 13), (15, .bipush 6), (17, .iload_n 1), (18, .imul), (19, .iload_n 3), (20, .iadd), (21, .iaload), (22, .iconst 3), (23, .iadd), (24, .iconst 4), (25, .idiv), (26, .iadd), (27, .istore_n 2), (28, .iinc 3 (1)), (31, .goto (-27)), (34, .iload_n 2), (35, .ireturn)]
def ke_Model_blocksOf : kb_m := (⟨"BindingKernelModel", "blocksOf", "(I)I"⟩, prog_8_method_3_code, 4, some .int, 6, 1, false, 0, 0, ki_Model_blocksOf)
abbrev kz_Model_liveOf : Nat := 24
def ki_Model_liveOf : List (Nat × Jvm.ClassFile.Instr) := [(0, .iconst 0), (1, .istore_n 3), (2, .iconst 0), (3, .istore 4), (5, .iload 4), (7, .aload_n 0), (8, .getfield 26), (11, .iload_n 1), (12, .iconst 2), (13, .isub), (14, .iaload), (15, .if_icmp .ge (50)), (18, .bipush 60), (20, .iload_n 1), (21, .iconst 2), (22, .isub), (23, .imul), (24, .iload 4), (26, .iadd), (27, .istore 5), (29, .aload_n 0), (30, .getfield 35), (33, .iload 5), (35, .iaload), (36, .iconst 2), (37, .if_icmp .lt (20)), (40, .aload_n 0), (41, .getfield 32), (44, .iload 5), (46, .baload), (47, .iload_n 2), (48, .if_icmp .ne (9)), (51, .iload_n 3), (52, .iconst 1), (53, .iadd), (54, .goto (4)), (57, .iload_n 3), (58, .istore_n 3), (59, .iinc 4 (1)), (62, .goto (-57)), (65, .iload_n 3), (66, .ireturn)]
def ke_Model_liveOf : kb_m := (⟨"BindingKernelModel", "liveOf", "(IZ)I"⟩, prog_8_method_4_code, 6, some .int, 6, 2, false, 0, 0, ki_Model_liveOf)
abbrev kz_Model_count : Nat := 25
def ki_Model_count : List (Nat × Jvm.ClassFile.Instr) := [(0, .iload_n 1), (1, .iconst 2), (2, .if_icmp .lt (10)), (5, .aload_n 0), (6, .iload_n 1), (7, .iload_n 2), (8, .invokevirtual 44), (11, .ireturn), (12, .iload_n 2), (13, .ifCond .eq (11)), (16, .aload_n 0), (17, .iload_n 1), (18, .invokevirtual 48), (21, .goto (9)), (24, .aload_n 0), (25, .getfield 23), (28, .iload_n 1), (29, .iaload), (30, .ireturn)]
def ke_Model_count : kb_m := (⟨"BindingKernelModel", "count", "(IZ)I"⟩, prog_8_method_5_code, 3, some .int, 6, 2, false, 1, 25, ki_Model_count)
abbrev kz_Model_free : Nat := 26
def ki_Model_free : List (Nat × Jvm.ClassFile.Instr) := [(0, .iload_n 1), (1, .ifCond .eq (8)), (4, .bipush 24), (6, .goto (5)), (9, .bipush 12), (11, .istore_n 2), (12, .iconst 0), (13, .istore_n 3), (14, .iload_n 3), (15, .iconst 4), (16, .if_icmp .ge (18)), (19, .iload_n 2), (20, .aload_n 0), (21, .iload_n 3), (22, .iload_n 1), (23, .invokevirtual 52), (26, .isub), (27, .istore_n 2), (28, .iinc 3 (1)), (31, .goto (-17)), (34, .iload_n 2), (35, .ireturn)]
def ke_Model_free : kb_m := (⟨"BindingKernelModel", "free", "(Z)I"⟩, prog_8_method_6_code, 4, some .int, 6, 1, false, 2, 47, ki_Model_free)
abbrev kz_Model_held : Nat := 27
def ki_Model_held : List (Nat × Jvm.ClassFile.Instr) := [(0, .iload_n 1), (1, .iconst 0), (2, .iconst 3), (3, .invokestatic 55), (6, .ifCond .eq (12)), (9, .aload_n 0), (10, .iload_n 1), (11, .iload_n 2), (12, .invokevirtual 52), (15, .goto (4)), (18, .iconst (-1)), (19, .ireturn)]
def ke_Model_held : kb_m := (⟨"BindingKernelModel", "held", "(IZ)I"⟩, prog_8_method_7_code, 3, some .int, 6, 2, false, 2, 47, ki_Model_held)
abbrev kz_Model_moveTo : Nat := 28
def ki_Model_moveTo : List (Nat × Jvm.ClassFile.Instr) := [(0, .aload_n 0), (1, .iload_n 1), (2, .putfield 59), (5, .iconst 0), (6, .istore_n 2), (7, .iconst 2), (8, .istore_n 3), (9, .iload_n 3), (10, .iconst 3), (11, .if_icmp .gt (96)), (14, .iconst 0), (15, .istore 4), (17, .iload 4), (19, .aload_n 0), (20, .getfield 26), (23, .iload_n 3), (24, .iconst 2), (25, .isub), (26, .iaload), (27, .if_icmp .ge (74)), (30, .bipush 60), (32, .iload_n 3), (33, .iconst 2), (34, .isub), (35, .imul), (36, .iload 4), (38, .iadd), (39, .istore 5), (41, .aload_n 0), (42, .getfield 35), (45, .iload 5), (47, .iaload), (48, .iconst 3), (49, .if_icmp .ne (46)), (52, .aload_n 0), (53, .getfield 38), (56, .iload 5), (58, .iaload), (59, .aload_n 0), (60, .getfield 59), (63, .if_icmp .gt (32)), (66, .aload_n 0), (67, .getfield 35), (70, .iload 5), (72, .iconst 1), (73, .iastore), (74, .aload_n 0), (75, .getfield 29), (78, .iload_n 3), (79, .iconst 2), (80, .isub), (81, .aload_n 0), (82, .getfield 29), (85, .iload_n 3), (86, .iconst 2), (87, .isub), (88, .iaload), (89, .iconst 1), (90, .iadd), (91, .iastore), (92, .iinc 2 (1)), (95, .iinc 4 (1)), (98, .goto (-81)), (101, .iinc 3 (1)), (104, .goto (-95)), (107, .iload_n 2), (108, .ireturn)]
def ke_Model_moveTo : kb_m := (⟨"BindingKernelModel", "moveTo", "(I)I"⟩, prog_8_method_8_code, 6, some .int, 6, 1, false, 0, 0, ki_Model_moveTo)
abbrev kz_Model_earliest : Nat := 29
def ki_Model_earliest : List (Nat × Jvm.ClassFile.Instr) := [(0, .iconst (-1)), (1, .istore_n 2), (2, .iconst 0), (3, .istore_n 3), (4, .iload_n 3), (5, .iconst 2), (6, .if_icmp .ge (83)), (9, .iconst 0), (10, .istore 4), (12, .iload 4), (14, .aload_n 0), (15, .getfield 26), (18, .iload_n 3), (19, .iaload), (20, .if_icmp .ge (63)), (23, .bipush 60), (25, .iload_n 3), (26, .imul), (27, .iload 4), (29, .iadd), (30, .istore 5), (32, .aload_n 0), (33, .getfield 35), (36, .iload 5), (38, .iaload), (39, .iconst 3), (40, .if_icmp .ne (37)), (43, .aload_n 0), (44, .getfield 32), (47, .iload 5), (49, .baload), (50, .iload_n 1), (51, .if_icmp .ne (26)), (54, .iload_n 2), (55, .ifCond .lt (14)), (58, .aload_n 0), (59, .getfield 38), (62, .iload 5), (64, .iaload), (65, .iload_n 2), (66, .if_icmp .ge (11)), (69, .aload_n 0), (70, .getfield 38), (73, .iload 5), (75, .iaload), (76, .istore_n 2), (77, .iinc 4 (1)), (80, .goto (-68)), (83, .iinc 3 (1)), (86, .goto (-82)), (89, .iload_n 2), (90, .ireturn)]
def ke_Model_earliest : kb_m := (⟨"BindingKernelModel", "earliest", "(Z)I"⟩, prog_8_method_9_code, 6, some .int, 6, 1, false, 0, 0, ki_Model_earliest)
abbrev kz_Model_mark : Nat := 30
def ki_Model_mark : List (Nat × Jvm.ClassFile.Instr) := [(0, .aload_n 0), (1, .getfield 35), (4, .iload_n 1), (5, .iconst 3), (6, .iastore), (7, .aload_n 0), (8, .getfield 38), (11, .iload_n 1), (12, .aload_n 0), (13, .getfield 59), (16, .iconst 5), (17, .iadd), (18, .iastore), (19, .return_)]
def ke_Model_mark : kb_m := (⟨"BindingKernelModel", "mark", "(I)V"⟩, prog_8_method_10_code, 2, none, 6, 1, false, 0, 0, ki_Model_mark)
abbrev kz_Model_wish : Nat := 31
def ki_Model_wish : List (Nat × Jvm.ClassFile.Instr) := [(0, .aload_n 0), (1, .iload_n 1), (2, .invokevirtual 63), (5, .ifCond .lt (4)), (8, .return_), (9, .aload_n 0), (10, .iconst 3), (11, .iload_n 1), (12, .invokevirtual 44), (15, .aload_n 0), (16, .iconst 2), (17, .iload_n 1), (18, .invokevirtual 44), (21, .if_icmp .le (7)), (24, .iconst 3), (25, .goto (4)), (28, .iconst 2), (29, .istore_n 2), (30, .iconst (-1)), (31, .istore_n 3), (32, .iconst 0), (33, .istore 4), (35, .iload 4), (37, .aload_n 0), (38, .getfield 26), (41, .iload_n 2), (42, .iconst 2), (43, .isub), (44, .iaload), (45, .if_icmp .ge (49)), (48, .bipush 60), (50, .iload_n 2), (51, .iconst 2), (52, .isub), (53, .imul), (54, .iload 4), (56, .iadd), (57, .istore 5), (59, .aload_n 0), (60, .getfield 35), (63, .iload 5), (65, .iaload), (66, .iconst 2), (67, .if_icmp .ne (19)), (70, .aload_n 0), (71, .getfield 32), (74, .iload 5), (76, .baload), (77, .iload_n 1), (78, .if_icmp .ne (8)), (81, .iload 5), (83, .goto (4)), (86, .iload_n 3), (87, .istore_n 3), (88, .iinc 4 (1)), (91, .goto (-56)), (94, .iload_n 3), (95, .ifCond .lt (8)), (98, .aload_n 0), (99, .iload_n 3), (100, .invokevirtual 67), (103, .return_)]
def ke_Model_wish : kb_m := (⟨"BindingKernelModel", "wish", "(Z)V"⟩, prog_8_method_11_code, 6, none, 6, 1, false, 1, 25, ki_Model_wish)
abbrev kz_Model_claim : Nat := 32
def ki_Model_claim : List (Nat × Jvm.ClassFile.Instr) := [(0, .aload_n 0), (1, .iload_n 1), (2, .invokevirtual 71), (5, .ifCond .ne (18)), (8, .aload_n 0), (9, .iload_n 1), (10, .invokevirtual 74), (13, .aload_n 0), (14, .aload_n 0), (15, .iload_n 1), (16, .invokevirtual 63), (19, .invokevirtual 78), (22, .istore_n 2), (23, .return_)]
def ke_Model_claim : kb_m := (⟨"BindingKernelModel", "claim", "(Z)V"⟩, prog_8_method_12_code, 3, none, 6, 1, false, 3, 70, ki_Model_claim)
abbrev kz_Model_noFile : Nat := 33
def ki_Model_noFile : List (Nat × Jvm.ClassFile.Instr) := [(0, .iload_n 1), (1, .iconst 0), (2, .iconst 1), (3, .invokestatic 55), (6, .ifCond .eq (12)), (9, .iload_n 2), (10, .iconst 0), (11, .iconst 5), (12, .invokestatic 55), (15, .ifCond .ne (7)), (18, .iconst 1), (19, .goto (4)), (22, .iconst 0), (23, .ireturn)]
def ke_Model_noFile : kb_m := (⟨"BindingKernelModel", "noFile", "(II)Z"⟩, prog_8_method_13_code, 3, some .boolean, 6, 2, false, 1, 22, ki_Model_noFile)
abbrev kz_Model_noWord : Nat := 34
def ki_Model_noWord : List (Nat × Jvm.ClassFile.Instr) := [(0, .aload_n 0), (1, .iload_n 1), (2, .iload_n 2), (3, .invokevirtual 81), (6, .ifCond .ne (24)), (9, .iload_n 3), (10, .iconst 0), (11, .aload_n 0), (12, .getfield 13), (15, .bipush 6), (17, .iload_n 1), (18, .imul), (19, .iload_n 2), (20, .iadd), (21, .iaload), (22, .iconst 1), (23, .isub), (24, .invokestatic 55), (27, .ifCond .ne (7)), (30, .iconst 1), (31, .goto (4)), (34, .iconst 0), (35, .ireturn)]
def ke_Model_noWord : kb_m := (⟨"BindingKernelModel", "noWord", "(III)Z"⟩, prog_8_method_14_code, 4, some .boolean, 6, 3, false, 2, 44, ki_Model_noWord)
abbrev kz_Model_find : Nat := 35
def ki_Model_find : List (Nat × Jvm.ClassFile.Instr) := [(0, .iconst (-1)), (1, .istore_n 3), (2, .iconst 3), (3, .iload_n 1), (4, .imul), (5, .istore 4), (7, .iload 4), (9, .iconst 3), (10, .iload_n 1), (11, .imul), (12, .aload_n 0), (13, .getfield 23), (16, .iload_n 1), (17, .iaload), (18, .iadd), (19, .if_icmp .ge (27)), (22, .aload_n 0), (23, .getfield 16), (26, .iload 4), (28, .iaload), (29, .iload_n 2), (30, .if_icmp .ne (8)), (33, .iload 4), (35, .goto (4)), (38, .iload_n 3), (39, .istore_n 3), (40, .iinc 4 (1)), (43, .goto (-36)), (46, .iload_n 3), (47, .ireturn)]
def ke_Model_find : kb_m := (⟨"BindingKernelModel", "find", "(II)I"⟩, prog_8_method_15_code, 5, some .int, 6, 2, false, 0, 0, ki_Model_find)
abbrev kz_Model_remove : Nat := 36
def ki_Model_remove : List (Nat × Jvm.ClassFile.Instr) := [(0, .iload_n 2), (1, .istore_n 3), (2, .iload_n 3), (3, .iconst 3), (4, .iload_n 1), (5, .imul), (6, .aload_n 0), (7, .getfield 23), (10, .iload_n 1), (11, .iaload), (12, .iadd), (13, .iconst 1), (14, .isub), (15, .if_icmp .ge (37)), (18, .aload_n 0), (19, .getfield 16), (22, .iload_n 3), (23, .aload_n 0), (24, .getfield 16), (27, .iload_n 3), (28, .iconst 1), (29, .iadd), (30, .iaload), (31, .iastore), (32, .aload_n 0), (33, .getfield 19), (36, .iload_n 3), (37, .aload_n 0), (38, .getfield 19), (41, .iload_n 3), (42, .iconst 1), (43, .iadd), (44, .baload), (45, .bastore), (46, .iinc 3 (1)), (49, .goto (-47)), (52, .aload_n 0), (53, .getfield 23), (56, .iload_n 1), (57, .aload_n 0), (58, .getfield 23), (61, .iload_n 1), (62, .iaload), (63, .iconst 1), (64, .isub), (65, .iastore), (66, .return_)]
def ke_Model_remove : kb_m := (⟨"BindingKernelModel", "remove", "(II)V"⟩, prog_8_method_16_code, 4, none, 6, 2, false, 0, 0, ki_Model_remove)
abbrev kz_Model_add : Nat := 37
def ki_Model_add : List (Nat × Jvm.ClassFile.Instr) := [(0, .iconst 3), (1, .iload_n 1), (2, .imul), (3, .aload_n 0), (4, .getfield 23), (7, .iload_n 1), (8, .iaload), (9, .iadd), (10, .istore 4), (12, .aload_n 0), (13, .getfield 16), (16, .iload 4), (18, .iload_n 2), (19, .iastore), (20, .aload_n 0), (21, .getfield 19), (24, .iload 4), (26, .iload_n 3), (27, .bastore), (28, .aload_n 0), (29, .getfield 23), (32, .iload_n 1), (33, .aload_n 0), (34, .getfield 23), (37, .iload_n 1), (38, .iaload), (39, .iconst 1), (40, .iadd), (41, .iastore), (42, .return_)]
def ke_Model_add : kb_m := (⟨"BindingKernelModel", "add", "(IIZ)V"⟩, prog_8_method_17_code, 5, none, 6, 3, false, 0, 0, ki_Model_add)
abbrev kz_Model_storeAt : Nat := 38
def ki_Model_storeAt : List (Nat × Jvm.ClassFile.Instr) := [(0, .aload_n 0), (1, .aload_n 0), (2, .getfield 19), (5, .iload_n 1), (6, .baload), (7, .ifCond .eq (12)), (10, .aload_n 0), (11, .getfield 85), (14, .iconst 1), (15, .iadd), (16, .goto (7)), (19, .aload_n 0), (20, .getfield 85), (23, .putfield 85), (26, .aload_n 0), (27, .getfield 19), (30, .iload_n 1), (31, .iconst 0), (32, .bastore), (33, .return_)]
def ke_Model_storeAt : kb_m := (⟨"BindingKernelModel", "storeAt", "(I)V"⟩, prog_8_method_18_code, 2, none, 6, 1, false, 0, 0, ki_Model_storeAt)
abbrev kz_Model_open : Nat := 39
def ki_Model_open : List (Nat × Jvm.ClassFile.Instr) := [(0, .bipush 6), (2, .iload_n 2), (3, .imul), (4, .iload_n 3), (5, .iconst 4), (6, .idiv), (7, .iadd), (8, .istore 4), (10, .aload_n 0), (11, .iload_n 1), (12, .iload 4), (14, .invokevirtual 88), (17, .istore 5), (19, .iload 5), (21, .ifCond .lt (29)), (24, .aload_n 0), (25, .getfield 19), (28, .iload 5), (30, .baload), (31, .istore 6), (33, .aload_n 0), (34, .iload_n 1), (35, .iload 5), (37, .invokevirtual 92), (40, .aload_n 0), (41, .iload_n 1), (42, .iload 4), (44, .iload 6), (46, .invokevirtual 96), (49, .return_), (50, .aload_n 0), (51, .getfield 23), (54, .iload_n 1), (55, .iaload), (56, .iconst 3), (57, .if_icmp .ne (21)), (60, .aload_n 0), (61, .iconst 3), (62, .iload_n 1), (63, .imul), (64, .invokevirtual 100), (67, .aload_n 0), (68, .iload_n 1), (69, .iconst 3), (70, .iload_n 1), (71, .imul), (72, .invokevirtual 92), (75, .goto (8)), (78, .aload_n 0), (79, .iconst 0), (80, .invokevirtual 103), (83, .aload_n 0), (84, .dup), (85, .getfield 106), (88, .iconst 1), (89, .iadd), (90, .putfield 106), (93, .aload_n 0), (94, .iload_n 1), (95, .iload 4), (97, .iconst 0), (98, .invokevirtual 96), (101, .return_)]
def ke_Model_open : kb_m := (⟨"BindingKernelModel", "open", "(III)V"⟩, prog_8_method_19_code, 7, none, 6, 3, false, 4, 92, ki_Model_open)
abbrev kz_Model_change : Nat := 40
def ki_Model_change : List (Nat × Jvm.ClassFile.Instr) := [(0, .aload_n 0), (1, .iload_n 1), (2, .iload_n 2), (3, .iload_n 3), (4, .invokevirtual 109), (7, .aload_n 0), (8, .getfield 7), (11, .sipush 144), (14, .iload_n 1), (15, .imul), (16, .bipush 24), (18, .iload_n 2), (19, .imul), (20, .iadd), (21, .iload_n 3), (22, .iadd), (23, .iload 4), (25, .iastore), (26, .aload_n 0), (27, .getfield 19), (30, .iconst 3), (31, .iload_n 1), (32, .imul), (33, .aload_n 0), (34, .getfield 23), (37, .iload_n 1), (38, .iaload), (39, .iadd), (40, .iconst 1), (41, .isub), (42, .iconst 1), (43, .bastore), (44, .return_)]
def ke_Model_change : kb_m := (⟨"BindingKernelModel", "change", "(IIII)V"⟩, prog_8_method_20_code, 5, none, 6, 4, false, 5, 118, ki_Model_change)
abbrev kz_Model_append : Nat := 41
def ki_Model_append : List (Nat × Jvm.ClassFile.Instr) := [(0, .aload_n 0), (1, .iload_n 1), (2, .iload_n 2), (3, .invokevirtual 81), (6, .ifCond .eq (5)), (9, .iconst 0), (10, .ireturn), (11, .aload_n 0), (12, .getfield 13), (15, .bipush 6), (17, .iload_n 1), (18, .imul), (19, .iload_n 2), (20, .iadd), (21, .iaload), (22, .istore 4), (24, .iload 4), (26, .iconst 4), (27, .irem), (28, .ifCond .ne (20)), (31, .aload_n 0), (32, .iload_n 1), (33, .invokevirtual 48), (36, .bipush 6), (38, .if_icmp .lt (5)), (41, .iconst 0), (42, .ireturn), (43, .aload_n 0), (44, .iconst 1), (45, .invokevirtual 103), (48, .aload_n 0), (49, .getfield 13), (52, .bipush 6), (54, .iload_n 1), (55, .imul), (56, .iload_n 2), (57, .iadd), (58, .iload 4), (60, .iconst 1), (61, .iadd), (62, .iastore), (63, .aload_n 0), (64, .iload_n 1), (65, .iload_n 2), (66, .iload 4), (68, .iload_n 3), (69, .invokevirtual 113), (72, .iconst 1), (73, .ireturn)]
def ke_Model_append : kb_m := (⟨"BindingKernelModel", "append", "(III)Z"⟩, prog_8_method_21_code, 5, some .boolean, 6, 3, false, 6, 142, ki_Model_append)
abbrev kz_Model_write : Nat := 42
def ki_Model_write : List (Nat × Jvm.ClassFile.Instr) := [(0, .aload_n 0), (1, .iload_n 1), (2, .iload_n 2), (3, .iload_n 3), (4, .invokevirtual 117), (7, .ifCond .eq (5)), (10, .iconst 0), (11, .ireturn), (12, .aload_n 0), (13, .iload_n 1), (14, .iload_n 2), (15, .iload_n 3), (16, .iload 4), (18, .invokevirtual 113), (21, .iconst 1), (22, .ireturn)]
def ke_Model_write : kb_m := (⟨"BindingKernelModel", "write", "(IIII)Z"⟩, prog_8_method_22_code, 5, some .boolean, 6, 4, false, 6, 142, ki_Model_write)
abbrev kz_Model_read : Nat := 43
def ki_Model_read : List (Nat × Jvm.ClassFile.Instr) := [(0, .aload_n 0), (1, .iload_n 1), (2, .iload_n 2), (3, .iload_n 3), (4, .invokevirtual 117), (7, .ifCond .eq (5)), (10, .iconst 0), (11, .ireturn), (12, .aload_n 0), (13, .iload_n 1), (14, .iload_n 2), (15, .iload_n 3), (16, .invokevirtual 109), (19, .aload_n 0), (20, .getfield 7), (23, .sipush 144), (26, .iload_n 1), (27, .imul), (28, .bipush 24), (30, .iload_n 2), (31, .imul), (32, .iadd), (33, .iload_n 3), (34, .iadd), (35, .iaload), (36, .ireturn)]
def ke_Model_read : kb_m := (⟨"BindingKernelModel", "read", "(III)I"⟩, prog_8_method_23_code, 4, some .int, 6, 3, false, 5, 118, ki_Model_read)
abbrev kz_Model_length : Nat := 44
def ki_Model_length : List (Nat × Jvm.ClassFile.Instr) := [(0, .aload_n 0), (1, .iload_n 1), (2, .iload_n 2), (3, .invokevirtual 81), (6, .ifCond .eq (7)), (9, .iconst (-1)), (10, .goto (14)), (13, .aload_n 0), (14, .getfield 13), (17, .bipush 6), (19, .iload_n 1), (20, .imul), (21, .iload_n 2), (22, .iadd), (23, .iaload), (24, .ireturn)]
def ke_Model_length : kb_m := (⟨"BindingKernelModel", "length", "(II)I"⟩, prog_8_method_24_code, 3, some .int, 6, 2, false, 2, 44, ki_Model_length)
abbrev kz_Model_erase : Nat := 45
def ki_Model_erase : List (Nat × Jvm.ClassFile.Instr) := [(0, .aload_n 0), (1, .iload_n 1), (2, .iload_n 2), (3, .invokevirtual 81), (6, .ifCond .eq (5)), (9, .iconst (-1)), (10, .ireturn), (11, .aload_n 0), (12, .getfield 13), (15, .bipush 6), (17, .iload_n 1), (18, .imul), (19, .iload_n 2), (20, .iadd), (21, .iaload), (22, .iconst 3), (23, .iadd), (24, .iconst 4), (25, .idiv), (26, .istore_n 3), (27, .iconst 0), (28, .istore 4), (30, .iload 4), (32, .iload_n 3), (33, .if_icmp .ge (35)), (36, .aload_n 0), (37, .iload_n 1), (38, .bipush 6), (40, .iload_n 2), (41, .imul), (42, .iload 4), (44, .iadd), (45, .invokevirtual 88), (48, .istore 5), (50, .iload 5), (52, .ifCond .lt (10)), (55, .aload_n 0), (56, .iload_n 1), (57, .iload 5), (59, .invokevirtual 92), (62, .iinc 4 (1)), (65, .goto (-35)), (68, .aload_n 0), (69, .getfield 13), (72, .bipush 6), (74, .iload_n 1), (75, .imul), (76, .iload_n 2), (77, .iadd), (78, .iconst 0), (79, .iastore), (80, .iload_n 3), (81, .ireturn)]
def ke_Model_erase : kb_m := (⟨"BindingKernelModel", "erase", "(II)I"⟩, prog_8_method_25_code, 6, some .int, 6, 2, false, 2, 44, ki_Model_erase)
abbrev kz_Model_sync : Nat := 46
def ki_Model_sync : List (Nat × Jvm.ClassFile.Instr) := [(0, .iload_n 1), (1, .iconst 0), (2, .iconst 1), (3, .invokestatic 55), (6, .ifCond .ne (5)), (9, .iconst (-1)), (10, .ireturn), (11, .aload_n 0), (12, .getfield 85), (15, .istore_n 2), (16, .iconst 3), (17, .iload_n 1), (18, .imul), (19, .istore_n 3), (20, .iload_n 3), (21, .iconst 3), (22, .iload_n 1), (23, .imul), (24, .aload_n 0), (25, .getfield 23), (28, .iload_n 1), (29, .iaload), (30, .iadd), (31, .if_icmp .ge (14)), (34, .aload_n 0), (35, .iload_n 3), (36, .invokevirtual 100), (39, .iinc 3 (1)), (42, .goto (-22)), (45, .aload_n 0), (46, .getfield 85), (49, .iload_n 2), (50, .isub), (51, .ireturn)]
def ke_Model_sync : kb_m := (⟨"BindingKernelModel", "sync", "(I)I"⟩, prog_8_method_26_code, 4, some .int, 6, 1, false, 1, 22, ki_Model_sync)
abbrev kz_Model_squeeze : Nat := 47
def ki_Model_squeeze : List (Nat × Jvm.ClassFile.Instr) := [(0, .iload_n 1), (1, .iconst 0), (2, .iconst 1), (3, .invokestatic 55), (6, .ifCond .eq (12)), (9, .aload_n 0), (10, .getfield 23), (13, .iload_n 1), (14, .iaload), (15, .ifCond .ne (5)), (18, .iconst 0), (19, .ireturn), (20, .aload_n 0), (21, .iconst 3), (22, .iload_n 1), (23, .imul), (24, .invokevirtual 100), (27, .aload_n 0), (28, .iload_n 1), (29, .iconst 3), (30, .iload_n 1), (31, .imul), (32, .invokevirtual 92), (35, .iconst 1), (36, .ireturn)]
def ke_Model_squeeze : kb_m := (⟨"BindingKernelModel", "squeeze", "(I)Z"⟩, prog_8_method_27_code, 2, some .boolean, 6, 1, false, 1, 23, ki_Model_squeeze)
abbrev kz_Model_bind : Nat := 48
def ki_Model_bind : List (Nat × Jvm.ClassFile.Instr) := [(0, .iload_n 1), (1, .iconst 2), (2, .iconst 3), (3, .invokestatic 55), (6, .ifCond .eq (16)), (9, .aload_n 0), (10, .getfield 26), (13, .iload_n 1), (14, .iconst 2), (15, .isub), (16, .iaload), (17, .bipush 60), (19, .if_icmp .ne (5)), (22, .iconst (-1)), (23, .ireturn), (24, .aload_n 0), (25, .iload_n 2), (26, .invokevirtual 71), (29, .ifCond .ne (33)), (32, .aload_n 0), (33, .iload_n 1), (34, .iload_n 2), (35, .invokevirtual 44), (38, .iload_n 2), (39, .ifCond .eq (8)), (42, .bipush 6), (44, .goto (4)), (47, .iconst 3), (48, .if_icmp .lt (6)), (51, .bipush (-2)), (53, .ireturn), (54, .aload_n 0), (55, .iload_n 2), (56, .invokevirtual 74), (59, .bipush (-3)), (61, .ireturn), (62, .aload_n 0), (63, .getfield 26), (66, .iload_n 1), (67, .iconst 2), (68, .isub), (69, .iaload), (70, .istore_n 3), (71, .bipush 60), (73, .iload_n 1), (74, .iconst 2), (75, .isub), (76, .imul), (77, .iload_n 3), (78, .iadd), (79, .istore 4), (81, .aload_n 0), (82, .getfield 32), (85, .iload 4), (87, .iload_n 2), (88, .bastore), (89, .aload_n 0), (90, .getfield 35), (93, .iload 4), (95, .iconst 2), (96, .iastore), (97, .iconst 0), (98, .istore 5), (100, .iload 5), (102, .iconst 4), (103, .if_icmp .ge (22)), (106, .aload_n 0), (107, .getfield 41), (110, .iconst 4), (111, .iload 4), (113, .imul), (114, .iload 5), (116, .iadd), (117, .iconst 0), (118, .iastore), (119, .iinc 5 (1)), (122, .goto (-22)), (125, .aload_n 0), (126, .getfield 26), (129, .iload_n 1), (130, .iconst 2), (131, .isub), (132, .iload_n 3), (133, .iconst 1), (134, .iadd), (135, .iastore), (136, .iload_n 3), (137, .ireturn)]
def ke_Model_bind : kb_m := (⟨"BindingKernelModel", "bind", "(IZ)I"⟩, prog_8_method_28_code, 6, some .int, 6, 2, false, 3, 70, ki_Model_bind)
abbrev kz_Model_live : Nat := 49
def ki_Model_live : List (Nat × Jvm.ClassFile.Instr) := [(0, .iload_n 1), (1, .iconst 2), (2, .iconst 3), (3, .invokestatic 55), (6, .ifCond .eq (21)), (9, .iload_n 2), (10, .iconst 0), (11, .aload_n 0), (12, .getfield 26), (15, .iload_n 1), (16, .iconst 2), (17, .isub), (18, .iaload), (19, .iconst 1), (20, .isub), (21, .invokestatic 55), (24, .ifCond .ne (5)), (27, .iconst (-1)), (28, .ireturn), (29, .bipush 60), (31, .iload_n 1), (32, .iconst 2), (33, .isub), (34, .imul), (35, .iload_n 2), (36, .iadd), (37, .istore_n 3), (38, .aload_n 0), (39, .getfield 35), (42, .iload_n 3), (43, .iaload), (44, .iconst 2), (45, .if_icmp .lt (7)), (48, .iload_n 3), (49, .goto (4)), (52, .iconst (-1)), (53, .ireturn)]
def ke_Model_live : kb_m := (⟨"BindingKernelModel", "live", "(II)I"⟩, prog_8_method_29_code, 4, some .int, 6, 2, false, 1, 22, ki_Model_live)
abbrev kz_Model_put : Nat := 50
def ki_Model_put : List (Nat × Jvm.ClassFile.Instr) := [(0, .aload_n 0), (1, .iload_n 1), (2, .iload_n 2), (3, .invokevirtual 120), (6, .istore 5), (8, .iload 5), (10, .ifCond .lt (22)), (13, .aload_n 0), (14, .getfield 32), (17, .iload 5), (19, .baload), (20, .ifCond .ne (12)), (23, .iload_n 3), (24, .iconst 0), (25, .iconst 3), (26, .invokestatic 55), (29, .ifCond .ne (5)), (32, .iconst 0), (33, .ireturn), (34, .aload_n 0), (35, .getfield 41), (38, .iconst 4), (39, .iload 5), (41, .imul), (42, .iload_n 3), (43, .iadd), (44, .iload 4), (46, .iastore), (47, .iconst 1), (48, .ireturn)]
def ke_Model_put : kb_m := (⟨"BindingKernelModel", "put", "(IIII)Z"⟩, prog_8_method_30_code, 6, some .boolean, 6, 4, false, 2, 45, ki_Model_put)
abbrev kz_Model_get : Nat := 51
def ki_Model_get : List (Nat × Jvm.ClassFile.Instr) := [(0, .aload_n 0), (1, .iload_n 1), (2, .iload_n 2), (3, .invokevirtual 120), (6, .istore 4), (8, .iload 4), (10, .ifCond .lt (22)), (13, .aload_n 0), (14, .getfield 32), (17, .iload 4), (19, .baload), (20, .ifCond .ne (12)), (23, .iload_n 3), (24, .iconst 0), (25, .iconst 3), (26, .invokestatic 55), (29, .ifCond .ne (7)), (32, .iconst 0), (33, .goto (14)), (36, .aload_n 0), (37, .getfield 41), (40, .iconst 4), (41, .iload 4), (43, .imul), (44, .iload_n 3), (45, .iadd), (46, .iaload), (47, .ireturn)]
def ke_Model_get : kb_m := (⟨"BindingKernelModel", "get", "(III)I"⟩, prog_8_method_31_code, 5, some .int, 6, 3, false, 2, 45, ki_Model_get)
abbrev kz_Model_copy : Nat := 52
def ki_Model_copy : List (Nat × Jvm.ClassFile.Instr) := [(0, .aload_n 0), (1, .iload_n 1), (2, .iload_n 2), (3, .invokevirtual 120), (6, .istore 4), (8, .aload_n 0), (9, .iload_n 1), (10, .iload_n 3), (11, .invokevirtual 120), (14, .istore 5), (16, .iload 4), (18, .ifCond .lt (25)), (21, .iload 5), (23, .ifCond .lt (20)), (26, .aload_n 0), (27, .getfield 32), (30, .iload 4), (32, .baload), (33, .aload_n 0), (34, .getfield 32), (37, .iload 5), (39, .baload), (40, .if_icmp .ne (5)), (43, .iconst 0), (44, .ireturn), (45, .iconst 0), (46, .istore 6), (48, .iload 6), (50, .iconst 4), (51, .if_icmp .ge (33)), (54, .aload_n 0), (55, .getfield 41), (58, .iconst 4), (59, .iload 5), (61, .imul), (62, .iload 6), (64, .iadd), (65, .aload_n 0), (66, .getfield 41), (69, .iconst 4), (70, .iload 4), (72, .imul), (73, .iload 6), (75, .iadd), (76, .iaload), (77, .iastore), (78, .iinc 6 (1)), (81, .goto (-33)), (84, .iconst 1), (85, .ireturn)]
def ke_Model_copy : kb_m := (⟨"BindingKernelModel", "copy", "(III)Z"⟩, prog_8_method_32_code, 7, some .boolean, 6, 3, false, 2, 45, ki_Model_copy)
abbrev kz_Model_release : Nat := 53
def ki_Model_release : List (Nat × Jvm.ClassFile.Instr) := [(0, .aload_n 0), (1, .iload_n 1), (2, .iload_n 2), (3, .invokevirtual 120), (6, .istore_n 3), (7, .iload_n 3), (8, .ifCond .ge (5)), (11, .iconst 0), (12, .ireturn), (13, .aload_n 0), (14, .getfield 35), (17, .iload_n 3), (18, .iconst 0), (19, .iastore), (20, .iconst 1), (21, .ireturn)]
def ke_Model_release : kb_m := (⟨"BindingKernelModel", "release", "(II)Z"⟩, prog_8_method_33_code, 4, some .boolean, 6, 2, false, 2, 45, ki_Model_release)
abbrev kz_Model_ask : Nat := 54
def ki_Model_ask : List (Nat × Jvm.ClassFile.Instr) := [(0, .aload_n 0), (1, .iload_n 1), (2, .iload_n 2), (3, .invokevirtual 120), (6, .istore_n 3), (7, .iload_n 3), (8, .ifCond .lt (13)), (11, .aload_n 0), (12, .getfield 35), (15, .iload_n 3), (16, .iaload), (17, .iconst 3), (18, .if_icmp .ne (5)), (21, .iconst 0), (22, .ireturn), (23, .aload_n 0), (24, .iload_n 3), (25, .invokevirtual 67), (28, .iconst 1), (29, .ireturn)]
def ke_Model_ask : kb_m := (⟨"BindingKernelModel", "ask", "(II)Z"⟩, prog_8_method_34_code, 4, some .boolean, 6, 2, false, 2, 45, ki_Model_ask)
abbrev kz_Model_state : Nat := 55
def ki_Model_state : List (Nat × Jvm.ClassFile.Instr) := [(0, .iload_n 1), (1, .iconst 2), (2, .iconst 3), (3, .invokestatic 55), (6, .ifCond .eq (21)), (9, .iload_n 2), (10, .iconst 0), (11, .aload_n 0), (12, .getfield 26), (15, .iload_n 1), (16, .iconst 2), (17, .isub), (18, .iaload), (19, .iconst 1), (20, .isub), (21, .invokestatic 55), (24, .ifCond .ne (5)), (27, .iconst (-1)), (28, .ireturn), (29, .aload_n 0), (30, .getfield 35), (33, .bipush 60), (35, .iload_n 1), (36, .iconst 2), (37, .isub), (38, .imul), (39, .iload_n 2), (40, .iadd), (41, .iaload), (42, .ireturn)]
def ke_Model_state : kb_m := (⟨"BindingKernelModel", "state", "(II)I"⟩, prog_8_method_35_code, 3, some .int, 6, 2, false, 1, 22, ki_Model_state)
abbrev kz_Model_pass : Nat := 56
def ki_Model_pass : List (Nat × Jvm.ClassFile.Instr) := [(0, .iload_n 1), (1, .iconst 1), (2, .bipush 50), (4, .invokestatic 55), (7, .ifCond .eq (16)), (10, .aload_n 0), (11, .aload_n 0), (12, .getfield 59), (15, .iload_n 1), (16, .iadd), (17, .invokevirtual 78), (20, .goto (4)), (23, .iconst (-1)), (24, .ireturn)]
def ke_Model_pass : kb_m := (⟨"BindingKernelModel", "pass", "(I)I"⟩, prog_8_method_36_code, 2, some .int, 6, 1, false, 1, 25, ki_Model_pass)
abbrev kz_Model_time : Nat := 57
def ki_Model_time : List (Nat × Jvm.ClassFile.Instr) := [(0, .aload_n 0), (1, .getfield 59), (4, .ireturn)]
def ke_Model_time : kb_m := (⟨"BindingKernelModel", "time", "()I"⟩, prog_8_method_37_code, 1, some .int, 6, 0, false, 0, 0, ki_Model_time)
abbrev kz_Model_losses : Nat := 58
def ki_Model_losses : List (Nat × Jvm.ClassFile.Instr) := [(0, .iload_n 1), (1, .iconst 0), (2, .iconst 3), (3, .invokestatic 55), (6, .ifCond .ne (7)), (9, .iconst (-1)), (10, .goto (20)), (13, .iload_n 1), (14, .iconst 2), (15, .if_icmp .ge (7)), (18, .iconst 0), (19, .goto (11)), (22, .aload_n 0), (23, .getfield 29), (26, .iload_n 1), (27, .iconst 2), (28, .isub), (29, .iaload), (30, .ireturn)]
def ke_Model_losses : kb_m := (⟨"BindingKernelModel", "losses", "(I)I"⟩, prog_8_method_38_code, 2, some .int, 6, 1, false, 1, 22, ki_Model_losses)
abbrev kz_Model_transfers : Nat := 59
def ki_Model_transfers : List (Nat × Jvm.ClassFile.Instr) := [(0, .iload_n 1), (1, .ifCond .eq (10)), (4, .aload_n 0), (5, .getfield 85), (8, .goto (7)), (11, .aload_n 0), (12, .getfield 106), (15, .ireturn)]
def ke_Model_transfers : kb_m := (⟨"BindingKernelModel", "transfers", "(Z)I"⟩, prog_8_method_39_code, 2, some .int, 6, 1, false, 0, 0, ki_Model_transfers)
abbrev kz_App_appendWord : Nat := 60
def ki_App_appendWord : List (Nat × Jvm.ClassFile.Instr) := [(0, .iload_n 1), (1, .invokestatic 39), (4, .ifCond .eq (11)), (7, .aload_n 0), (8, .iload_n 1), (9, .invokevirtual 43), (12, .ifCond .ne (5)), (15, .iconst 0), (16, .ireturn), (17, .aload_n 0), (18, .getfield 9), (21, .iload_n 1), (22, .iaload), (23, .istore_n 3), (24, .aload_n 0), (25, .getfield 9), (28, .iload_n 1), (29, .dup2), (30, .iaload), (31, .iconst 1), (32, .iadd), (33, .iastore), (34, .aload_n 0), (35, .aload_n 0), (36, .iload_n 1), (37, .iload_n 3), (38, .invokevirtual 46), (41, .iload_n 3), (42, .iload_n 2), (43, .invokevirtual 50), (46, .ireturn)]
def ke_App_appendWord : kb_m := (⟨"BindingKernel$Application", "appendWord", "(II)Z"⟩, prog_2_method_2_code, 4, some .boolean, 4, 2, false, 5, 132, ki_App_appendWord)
abbrev kz_App_writeWord : Nat := 61
def ki_App_writeWord : List (Nat × Jvm.ClassFile.Instr) := [(0, .aload_n 0), (1, .aload_n 0), (2, .iload_n 1), (3, .iload_n 2), (4, .invokevirtual 46), (7, .iload_n 2), (8, .iload_n 3), (9, .invokevirtual 50), (12, .ireturn)]
def ke_App_writeWord : kb_m := (⟨"BindingKernel$Application", "writeWord", "(III)Z"⟩, prog_2_method_3_code, 4, some .boolean, 4, 3, false, 5, 132, ki_App_writeWord)
abbrev kz_App_readWord : Nat := 62
def ki_App_readWord : List (Nat × Jvm.ClassFile.Instr) := [(0, .aload_n 0), (1, .iload_n 1), (2, .iload_n 2), (3, .invokevirtual 46), (6, .astore_n 3), (7, .aload_n 3), (8, .ifnonnull (7)), (11, .iconst 0), (12, .goto (20)), (15, .aload_n 0), (16, .getfield 24), (19, .getfield 54), (22, .aload_n 3), (23, .getfield 60), (26, .iload_n 2), (27, .iconst 4), (28, .irem), (29, .invokevirtual 63), (32, .ireturn)]
def ke_App_readWord : kb_m := (⟨"BindingKernel$Application", "readWord", "(II)I"⟩, prog_2_method_4_code, 4, some .int, 4, 2, false, 5, 132, ki_App_readWord)
abbrev kz_App_lengthOf : Nat := 63
def ki_App_lengthOf : List (Nat × Jvm.ClassFile.Instr) := [(0, .iload_n 1), (1, .invokestatic 39), (4, .ifCond .eq (12)), (7, .aload_n 0), (8, .getfield 9), (11, .iload_n 1), (12, .iaload), (13, .goto (4)), (16, .iconst (-1)), (17, .ireturn)]
def ke_App_lengthOf : kb_m := (⟨"BindingKernel$Application", "lengthOf", "(I)I"⟩, prog_2_method_5_code, 2, some .int, 4, 1, false, 1, 20, ki_App_lengthOf)
abbrev kz_App_eraseFile : Nat := 64
def ki_App_eraseFile : List (Nat × Jvm.ClassFile.Instr) := [(0, .iload_n 1), (1, .invokestatic 39), (4, .ifCond .ne (5)), (7, .iconst (-1)), (8, .ireturn), (9, .iconst 0), (10, .istore_n 2), (11, .iload_n 1), (12, .bipush 6), (14, .imul), (15, .istore_n 3), (16, .iload_n 3), (17, .iload_n 1), (18, .iconst 1), (19, .iadd), (20, .bipush 6), (22, .imul), (23, .if_icmp .ge (27)), (26, .aload_n 0), (27, .getfield 15), (30, .iload_n 3), (31, .iaload), (32, .iconst (-1)), (33, .if_icmp .eq (11)), (36, .aload_n 0), (37, .iload_n 3), (38, .invokevirtual 69), (41, .iinc 2 (1)), (44, .iinc 3 (1)), (47, .goto (-31)), (50, .aload_n 0), (51, .getfield 9), (54, .iload_n 1), (55, .iconst 0), (56, .iastore), (57, .iload_n 2), (58, .ireturn)]
def ke_App_eraseFile : kb_m := (⟨"BindingKernel$Application", "eraseFile", "(I)I"⟩, prog_2_method_6_code, 4, some .int, 4, 1, false, 3, 64, ki_App_eraseFile)
abbrev kz_App_storeAllChanged : Nat := 65
def ki_App_storeAllChanged : List (Nat × Jvm.ClassFile.Instr) := [(0, .aload_n 0), (1, .getfield 73), (4, .istore_n 1), (5, .aload_n 0), (6, .getfield 20), (9, .astore_n 2), (10, .aload_n 2), (11, .arraylength), (12, .istore_n 3), (13, .iconst 0), (14, .istore 4), (16, .iload 4), (18, .iload_n 3), (19, .if_icmp .ge (21)), (22, .aload_n 2), (23, .iload 4), (25, .aaload), (26, .astore 5), (28, .aload_n 0), (29, .aload 5), (31, .invokevirtual 76), (34, .iinc 4 (1)), (37, .goto (-21)), (40, .aload_n 0), (41, .getfield 73), (44, .iload_n 1), (45, .isub), (46, .ireturn)]
def ke_App_storeAllChanged : kb_m := (⟨"BindingKernel$Application", "storeAllChanged", "()I"⟩, prog_2_method_7_code, 6, some .int, 4, 0, false, 3, 84, ki_App_storeAllChanged)
abbrev kz_App_giveUpOldestFrame : Nat := 66
def ki_App_giveUpOldestFrame : List (Nat × Jvm.ClassFile.Instr) := [(0, .aload_n 0), (1, .invokevirtual 80), (4, .astore_n 1), (5, .aload_n 1), (6, .ifnonnull (5)), (9, .iconst 0), (10, .ireturn), (11, .aload_n 0), (12, .aload_n 1), (13, .invokevirtual 76), (16, .aload_n 0), (17, .aload_n 1), (18, .invokevirtual 84), (21, .iconst 1), (22, .ireturn)]
def ke_App_giveUpOldestFrame : kb_m := (⟨"BindingKernel$Application", "giveUpOldestFrame", "()Z"⟩, prog_2_method_8_code, 2, some .boolean, 4, 0, false, 3, 84, ki_App_giveUpOldestFrame)
abbrev kz_App_isFile : Nat := 67
def ki_App_isFile : List (Nat × Jvm.ClassFile.Instr) := [(0, .iload_n 0), (1, .ifCond .lt (13)), (4, .iload_n 0), (5, .bipush 6), (7, .if_icmp .ge (7)), (10, .iconst 1), (11, .goto (4)), (14, .iconst 0), (15, .ireturn)]
def ke_App_isFile : kb_m := (⟨"BindingKernel$Application", "isFile", "(I)Z"⟩, prog_2_method_9_code, 1, some .boolean, 4, 1, true, 0, 0, ki_App_isFile)
abbrev kz_App_makeRoomForWord : Nat := 68
def ki_App_makeRoomForWord : List (Nat × Jvm.ClassFile.Instr) := [(0, .aload_n 0), (1, .getfield 9), (4, .iload_n 1), (5, .iaload), (6, .iconst 4), (7, .irem), (8, .ifCond .eq (5)), (11, .iconst 1), (12, .ireturn), (13, .aload_n 0), (14, .getfield 9), (17, .iload_n 1), (18, .iaload), (19, .iconst 4), (20, .idiv), (21, .istore_n 2), (22, .iload_n 2), (23, .bipush 6), (25, .if_icmp .ge (20)), (28, .aload_n 0), (29, .getfield 24), (32, .getfield 87), (35, .aload_n 0), (36, .getfield 28), (39, .invokevirtual 90), (42, .ifCond .eq (5)), (45, .iconst 0), (46, .ireturn), (47, .aload_n 0), (48, .getfield 24), (51, .aload_n 0), (52, .getfield 28), (55, .iconst 1), (56, .invokevirtual 93), (59, .istore_n 3), (60, .aload_n 0), (61, .getfield 15), (64, .iload_n 1), (65, .bipush 6), (67, .imul), (68, .iload_n 2), (69, .iadd), (70, .iload_n 3), (71, .iastore), (72, .iload_n 3), (73, .iconst (-1)), (74, .if_icmp .eq (7)), (77, .iconst 1), (78, .goto (4)), (81, .iconst 0), (82, .ireturn)]
def ke_App_makeRoomForWord : kb_m := (⟨"BindingKernel$Application", "makeRoomForWord", "(I)Z"⟩, prog_2_method_10_code, 4, some .boolean, 4, 1, false, 4, 108, ki_App_makeRoomForWord)
abbrev kz_App_changeWord : Nat := 69
def ki_App_changeWord : List (Nat × Jvm.ClassFile.Instr) := [(0, .aload_n 1), (1, .ifnonnull (5)), (4, .iconst 0), (5, .ireturn), (6, .aload_n 1), (7, .iconst 1), (8, .putfield 97), (11, .aload_n 0), (12, .getfield 24), (15, .getfield 54), (18, .aload_n 1), (19, .getfield 60), (22, .iload_n 2), (23, .iconst 4), (24, .irem), (25, .iload_n 3), (26, .invokevirtual 101), (29, .ireturn)]
def ke_App_changeWord : kb_m := (⟨"BindingKernel$Application", "changeWord", "(LBindingKernel$Slot;II)Z"⟩, prog_2_method_11_code, 4, some .boolean, 4, 3, false, 3, 66, ki_App_changeWord)
abbrev kz_App_openPartOf : Nat := 70
def ki_App_openPartOf : List (Nat × Jvm.ClassFile.Instr) := [(0, .iload_n 1), (1, .invokestatic 39), (4, .ifCond .eq (17)), (7, .iload_n 2), (8, .ifCond .lt (13)), (11, .iload_n 2), (12, .aload_n 0), (13, .getfield 9), (16, .iload_n 1), (17, .iaload), (18, .if_icmp .lt (5)), (21, .aconst_null), (22, .areturn), (23, .iload_n 1), (24, .bipush 6), (26, .imul), (27, .iload_n 2), (28, .iconst 4), (29, .idiv), (30, .iadd), (31, .istore_n 3), (32, .aload_n 0), (33, .iload_n 3), (34, .invokevirtual 105), (37, .astore 4), (39, .aload 4), (41, .ifnonnull (5)), (44, .aconst_null), (45, .areturn), (46, .aload 4), (48, .invokevirtual 109), (51, .ifCond .eq (20)), (54, .aload 4), (56, .aload_n 0), (57, .getfield 24), (60, .aload_n 0), (61, .getfield 28), (64, .iconst 0), (65, .invokevirtual 93), (68, .putfield 60), (71, .aload 4), (73, .getfield 113), (76, .iload_n 3), (77, .if_icmp .eq (16)), (80, .aload_n 0), (81, .aload 4), (83, .invokevirtual 76), (86, .aload_n 0), (87, .aload 4), (89, .iload_n 3), (90, .invokevirtual 116), (93, .aload_n 0), (94, .dup), (95, .getfield 120), (98, .iconst 1), (99, .iadd), (100, .putfield 120), (103, .aload 4), (105, .aload_n 0), (106, .getfield 120), (109, .putfield 123), (112, .aload 4), (114, .areturn)]
def ke_App_openPartOf : kb_m := (⟨"BindingKernel$Application", "openPartOf", "(II)LBindingKernel$Slot;"⟩, prog_2_method_12_code, 5, some (.object "BindingKernel$Slot"), 4, 2, false, 4, 108, ki_App_openPartOf)
abbrev kz_App_slotFor : Nat := 71
def ki_App_slotFor : List (Nat × Jvm.ClassFile.Instr) := [(0, .aload_n 0), (1, .iload_n 1), (2, .invokevirtual 126), (5, .astore_n 2), (6, .aload_n 2), (7, .ifnonnull (9)), (10, .aload_n 0), (11, .iconst (-1)), (12, .invokevirtual 126), (15, .astore_n 2), (16, .aload_n 2), (17, .ifnonnull (10)), (20, .aload_n 0), (21, .invokevirtual 80), (24, .goto (4)), (27, .aload_n 2), (28, .areturn)]
def ke_App_slotFor : kb_m := (⟨"BindingKernel$Application", "slotFor", "(I)LBindingKernel$Slot;"⟩, prog_2_method_13_code, 3, some (.object "BindingKernel$Slot"), 4, 1, false, 2, 45, ki_App_slotFor)
abbrev kz_App_slotOf : Nat := 72
def ki_App_slotOf : List (Nat × Jvm.ClassFile.Instr) := [(0, .aload_n 0), (1, .getfield 20), (4, .astore_n 2), (5, .aload_n 2), (6, .arraylength), (7, .istore_n 3), (8, .iconst 0), (9, .istore 4), (11, .iload 4), (13, .iload_n 3), (14, .if_icmp .ge (27)), (17, .aload_n 2), (18, .iload 4), (20, .aaload), (21, .astore 5), (23, .aload 5), (25, .getfield 113), (28, .iload_n 1), (29, .if_icmp .ne (6)), (32, .aload 5), (34, .areturn), (35, .iinc 4 (1)), (38, .goto (-27)), (41, .aconst_null), (42, .areturn)]
def ke_App_slotOf : kb_m := (⟨"BindingKernel$Application", "slotOf", "(I)LBindingKernel$Slot;"⟩, prog_2_method_14_code, 6, some (.object "BindingKernel$Slot"), 4, 1, false, 0, 0, ki_App_slotOf)
abbrev kz_App_oldestSlot : Nat := 73
def ki_App_oldestSlot : List (Nat × Jvm.ClassFile.Instr) := [(0, .aconst_null), (1, .astore_n 1), (2, .aload_n 0), (3, .getfield 20), (6, .astore_n 2), (7, .aload_n 2), (8, .arraylength), (9, .istore_n 3), (10, .iconst 0), (11, .istore 4), (13, .iload 4), (15, .iload_n 3), (16, .if_icmp .ge (42)), (19, .aload_n 2), (20, .iload 4), (22, .aaload), (23, .astore 5), (25, .aload 5), (27, .invokevirtual 109), (30, .ifCond .ne (22)), (33, .aload_n 1), (34, .ifnull (15)), (37, .aload 5), (39, .getfield 123), (42, .aload_n 1), (43, .getfield 123), (46, .if_icmp .ge (6)), (49, .aload 5), (51, .astore_n 1), (52, .iinc 4 (1)), (55, .goto (-42)), (58, .aload_n 1), (59, .areturn)]
def ke_App_oldestSlot : kb_m := (⟨"BindingKernel$Application", "oldestSlot", "()LBindingKernel$Slot;"⟩, prog_2_method_15_code, 6, some (.object "BindingKernel$Slot"), 4, 0, false, 1, 20, ki_App_oldestSlot)
abbrev kz_App_load : Nat := 74
def ki_App_load : List (Nat × Jvm.ClassFile.Instr) := [(0, .aload_n 0), (1, .getfield 24), (4, .getfield 54), (7, .aload_n 0), (8, .getfield 24), (11, .getfield 87), (14, .aload_n 0), (15, .iload_n 2), (16, .invokevirtual 129), (19, .aload_n 1), (20, .getfield 60), (23, .invokevirtual 133), (26, .aload_n 1), (27, .iload_n 2), (28, .putfield 113), (31, .aload_n 1), (32, .iconst 0), (33, .putfield 97), (36, .aload_n 0), (37, .dup), (38, .getfield 137), (41, .iconst 1), (42, .iadd), (43, .putfield 137), (46, .return_)]
def ke_App_load : kb_m := (⟨"BindingKernel$Application", "load", "(LBindingKernel$Slot;I)V"⟩, prog_2_method_16_code, 3, none, 4, 2, false, 2, 63, ki_App_load)
abbrev kz_App_storeIfChanged : Nat := 75
def ki_App_storeIfChanged : List (Nat × Jvm.ClassFile.Instr) := [(0, .aload_n 1), (1, .getfield 97), (4, .ifCond .ne (4)), (7, .return_), (8, .aload_n 0), (9, .getfield 24), (12, .getfield 87), (15, .aload_n 0), (16, .getfield 24), (19, .getfield 54), (22, .aload_n 1), (23, .getfield 60), (26, .aload_n 0), (27, .aload_n 1), (28, .getfield 113), (31, .invokevirtual 129), (34, .invokevirtual 133), (37, .aload_n 1), (38, .iconst 0), (39, .putfield 97), (42, .aload_n 0), (43, .dup), (44, .getfield 73), (47, .iconst 1), (48, .iadd), (49, .putfield 73), (52, .return_)]
def ke_App_storeIfChanged : kb_m := (⟨"BindingKernel$Application", "storeIfChanged", "(LBindingKernel$Slot;)V"⟩, prog_2_method_17_code, 2, none, 4, 1, false, 2, 63, ki_App_storeIfChanged)
abbrev kz_App_blockOf : Nat := 76
def ki_App_blockOf : List (Nat × Jvm.ClassFile.Instr) := [(0, .iload_n 1), (1, .ifCond .lt (21)), (4, .iload_n 1), (5, .aload_n 0), (6, .getfield 15), (9, .arraylength), (10, .if_icmp .ge (12)), (13, .aload_n 0), (14, .getfield 15), (17, .iload_n 1), (18, .iaload), (19, .goto (4)), (22, .iconst (-1)), (23, .ireturn)]
def ke_App_blockOf : kb_m := (⟨"BindingKernel$Application", "blockOf", "(I)I"⟩, prog_2_method_18_code, 2, some .int, 4, 1, false, 0, 0, ki_App_blockOf)
abbrev kz_App_dropPart : Nat := 77
def ki_App_dropPart : List (Nat × Jvm.ClassFile.Instr) := [(0, .aload_n 0), (1, .iload_n 1), (2, .invokevirtual 126), (5, .astore_n 2), (6, .aload_n 2), (7, .ifnull (8)), (10, .aload_n 0), (11, .aload_n 2), (12, .invokevirtual 84), (15, .aload_n 0), (16, .getfield 24), (19, .getfield 87), (22, .aload_n 0), (23, .getfield 15), (26, .iload_n 1), (27, .iaload), (28, .invokevirtual 140), (31, .aload_n 0), (32, .getfield 15), (35, .iload_n 1), (36, .iconst (-1)), (37, .iastore), (38, .return_)]
def ke_App_dropPart : kb_m := (⟨"BindingKernel$Application", "dropPart", "(I)V"⟩, prog_2_method_19_code, 3, none, 4, 1, false, 2, 42, ki_App_dropPart)
abbrev kz_App_giveFrameBack : Nat := 78
def ki_App_giveFrameBack : List (Nat × Jvm.ClassFile.Instr) := [(0, .aload_n 0), (1, .getfield 24), (4, .getfield 54), (7, .aload_n 1), (8, .getfield 60), (11, .invokevirtual 140), (14, .aload_n 1), (15, .iconst (-1)), (16, .putfield 60), (19, .aload_n 1), (20, .iconst (-1)), (21, .putfield 113), (24, .aload_n 1), (25, .iconst 0), (26, .putfield 97), (29, .return_)]
def ke_App_giveFrameBack : kb_m := (⟨"BindingKernel$Application", "giveFrameBack", "(LBindingKernel$Slot;)V"⟩, prog_2_method_20_code, 2, none, 4, 1, false, 1, 21, ki_App_giveFrameBack)
abbrev kz_Guest_hasAllTickets : Nat := 79
def ki_Guest_hasAllTickets : List (Nat × Jvm.ClassFile.Instr) := [(0, .aload_n 0), (1, .getfield 32), (4, .bipush 60), (6, .if_icmp .lt (7)), (9, .iconst 1), (10, .goto (4)), (13, .iconst 0), (14, .ireturn)]
def ke_Guest_hasAllTickets : kb_m := (⟨"BindingKernel$Guest", "hasAllTickets", "()Z"⟩, prog_3_method_2_code, 1, some .boolean, 3, 0, false, 0, 0, ki_Guest_hasAllTickets)
abbrev kz_Guest_addTicket : Nat := 80
def ki_Guest_addTicket : List (Nat × Jvm.ClassFile.Instr) := [(0, .aload_n 0), (1, .invokevirtual 36), (4, .ifCond .eq (5)), (7, .iconst (-1)), (8, .ireturn), (9, .aload_n 0), (10, .getfield 32), (13, .istore_n 3), (14, .aload_n 0), (15, .getfield 9), (18, .iload_n 3), (19, .iload_n 1), (20, .bastore), (21, .aload_n 0), (22, .getfield 15), (25, .iload_n 3), (26, .iload_n 2), (27, .iastore), (28, .aload_n 0), (29, .getfield 19), (32, .iload_n 3), (33, .iconst 2), (34, .iastore), (35, .aload_n 0), (36, .dup), (37, .getfield 32), (40, .iconst 1), (41, .iadd), (42, .putfield 32), (45, .iload_n 3), (46, .ireturn)]
def ke_Guest_addTicket : kb_m := (⟨"BindingKernel$Guest", "addTicket", "(ZI)I"⟩, prog_3_method_3_code, 4, some .int, 3, 2, false, 1, 20, ki_Guest_addTicket)
abbrev kz_Guest_stateOf : Nat := 81
def ki_Guest_stateOf : List (Nat × Jvm.ClassFile.Instr) := [(0, .iload_n 1), (1, .ifCond .lt (20)), (4, .iload_n 1), (5, .aload_n 0), (6, .getfield 32), (9, .if_icmp .ge (12)), (12, .aload_n 0), (13, .getfield 19), (16, .iload_n 1), (17, .iaload), (18, .goto (4)), (21, .iconst (-1)), (22, .ireturn)]
def ke_Guest_stateOf : kb_m := (⟨"BindingKernel$Guest", "stateOf", "(I)I"⟩, prog_3_method_4_code, 2, some .int, 3, 1, false, 0, 0, ki_Guest_stateOf)
abbrev kz_Guest_putWord : Nat := 82
def ki_Guest_putWord : List (Nat × Jvm.ClassFile.Instr) := [(0, .aload_n 0), (1, .iload_n 1), (2, .iconst 0), (3, .invokevirtual 40), (6, .ifCond .eq (25)), (9, .aload_n 0), (10, .getfield 25), (13, .aload_n 0), (14, .getfield 15), (17, .iload_n 1), (18, .iaload), (19, .iload_n 2), (20, .iload_n 3), (21, .invokevirtual 44), (24, .ifCond .eq (7)), (27, .iconst 1), (28, .goto (4)), (31, .iconst 0), (32, .ireturn)]
def ke_Guest_putWord : kb_m := (⟨"BindingKernel$Guest", "putWord", "(III)Z"⟩, prog_3_method_5_code, 4, some .boolean, 3, 3, false, 3, 66, ki_Guest_putWord)
abbrev kz_Guest_getWord : Nat := 83
def ki_Guest_getWord : List (Nat × Jvm.ClassFile.Instr) := [(0, .aload_n 0), (1, .iload_n 1), (2, .iconst 0), (3, .invokevirtual 40), (6, .ifCond .eq (20)), (9, .aload_n 0), (10, .getfield 25), (13, .aload_n 0), (14, .getfield 15), (17, .iload_n 1), (18, .iaload), (19, .iload_n 2), (20, .invokevirtual 50), (23, .goto (4)), (26, .iconst 0), (27, .ireturn)]
def ke_Guest_getWord : kb_m := (⟨"BindingKernel$Guest", "getWord", "(II)I"⟩, prog_3_method_6_code, 3, some .int, 3, 2, false, 3, 65, ki_Guest_getWord)
abbrev kz_Guest_copyWords : Nat := 84
def ki_Guest_copyWords : List (Nat × Jvm.ClassFile.Instr) := [(0, .aload_n 0), (1, .iload_n 1), (2, .iconst 0), (3, .invokevirtual 40), (6, .ifCond .eq (37)), (9, .aload_n 0), (10, .iload_n 2), (11, .iconst 1), (12, .invokevirtual 40), (15, .ifCond .eq (28)), (18, .aload_n 0), (19, .getfield 29), (22, .aload_n 0), (23, .getfield 25), (26, .aload_n 0), (27, .getfield 15), (30, .iload_n 1), (31, .iaload), (32, .aload_n 0), (33, .getfield 15), (36, .iload_n 2), (37, .iaload), (38, .invokevirtual 54), (41, .iconst 1), (42, .ireturn), (43, .aload_n 0), (44, .iload_n 1), (45, .iconst 1), (46, .invokevirtual 40), (49, .ifCond .eq (37)), (52, .aload_n 0), (53, .iload_n 2), (54, .iconst 0), (55, .invokevirtual 40), (58, .ifCond .eq (28)), (61, .aload_n 0), (62, .getfield 25), (65, .aload_n 0), (66, .getfield 29), (69, .aload_n 0), (70, .getfield 15), (73, .iload_n 1), (74, .iaload), (75, .aload_n 0), (76, .getfield 15), (79, .iload_n 2), (80, .iaload), (81, .invokevirtual 54), (84, .iconst 1), (85, .ireturn), (86, .iconst 0), (87, .ireturn)]
def ke_Guest_copyWords : kb_m := (⟨"BindingKernel$Guest", "copyWords", "(II)Z"⟩, prog_3_method_7_code, 3, some .boolean, 3, 2, false, 3, 65, ki_Guest_copyWords)
abbrev kz_Guest_giveBack : Nat := 85
def ki_Guest_giveBack : List (Nat × Jvm.ClassFile.Instr) := [(0, .aload_n 0), (1, .iload_n 1), (2, .invokevirtual 58), (5, .ifCond .ne (5)), (8, .iconst 0), (9, .ireturn), (10, .aload_n 0), (11, .getfield 19), (14, .iload_n 1), (15, .iconst 0), (16, .iastore), (17, .aload_n 0), (18, .iload_n 1), (19, .invokevirtual 62), (22, .aload_n 0), (23, .getfield 15), (26, .iload_n 1), (27, .iaload), (28, .invokevirtual 66), (31, .iconst 1), (32, .ireturn)]
def ke_Guest_giveBack : kb_m := (⟨"BindingKernel$Guest", "giveBack", "(I)Z"⟩, prog_3_method_8_code, 2, some .boolean, 3, 1, false, 2, 43, ki_Guest_giveBack)
abbrev kz_Guest_askFor : Nat := 86
def ki_Guest_askFor : List (Nat × Jvm.ClassFile.Instr) := [(0, .aload_n 0), (1, .iload_n 1), (2, .invokevirtual 70), (5, .iconst 2), (6, .if_icmp .eq (5)), (9, .iconst 0), (10, .ireturn), (11, .aload_n 0), (12, .getfield 19), (15, .iload_n 1), (16, .iconst 3), (17, .iastore), (18, .aload_n 0), (19, .getfield 22), (22, .iload_n 1), (23, .iload_n 2), (24, .iastore), (25, .iconst 1), (26, .ireturn)]
def ke_Guest_askFor : kb_m := (⟨"BindingKernel$Guest", "askFor", "(II)Z"⟩, prog_3_method_9_code, 3, some .boolean, 3, 2, false, 1, 21, ki_Guest_askFor)
abbrev kz_Guest_askForLastOf : Nat := 87
def ki_Guest_askForLastOf : List (Nat × Jvm.ClassFile.Instr) := [(0, .aload_n 0), (1, .getfield 32), (4, .iconst 1), (5, .isub), (6, .istore_n 3), (7, .iload_n 3), (8, .ifCond .lt (44)), (11, .aload_n 0), (12, .getfield 19), (15, .iload_n 3), (16, .iaload), (17, .iconst 2), (18, .if_icmp .ne (28)), (21, .aload_n 0), (22, .getfield 9), (25, .iload_n 3), (26, .baload), (27, .iload_n 1), (28, .if_icmp .ne (18)), (31, .aload_n 0), (32, .getfield 19), (35, .iload_n 3), (36, .iconst 3), (37, .iastore), (38, .aload_n 0), (39, .getfield 22), (42, .iload_n 3), (43, .iload_n 2), (44, .iastore), (45, .return_), (46, .iinc 3 (-1)), (49, .goto (-42)), (52, .return_)]
def ke_Guest_askForLastOf : kb_m := (⟨"BindingKernel$Guest", "askForLastOf", "(ZI)V"⟩, prog_3_method_10_code, 4, none, 3, 2, false, 0, 0, ki_Guest_askForLastOf)
abbrev kz_Guest_earliestDeadline : Nat := 88
def ki_Guest_earliestDeadline : List (Nat × Jvm.ClassFile.Instr) := [(0, .ldc 74), (2, .istore_n 2), (3, .iconst 0), (4, .istore_n 3), (5, .iload_n 3), (6, .aload_n 0), (7, .getfield 32), (10, .if_icmp .ge (46)), (13, .aload_n 0), (14, .getfield 19), (17, .iload_n 3), (18, .iaload), (19, .iconst 3), (20, .if_icmp .ne (30)), (23, .aload_n 0), (24, .getfield 9), (27, .iload_n 3), (28, .baload), (29, .iload_n 1), (30, .if_icmp .ne (20)), (33, .aload_n 0), (34, .getfield 22), (37, .iload_n 3), (38, .iaload), (39, .iload_n 2), (40, .if_icmp .ge (10)), (43, .aload_n 0), (44, .getfield 22), (47, .iload_n 3), (48, .iaload), (49, .istore_n 2), (50, .iinc 3 (1)), (53, .goto (-48)), (56, .iload_n 2), (57, .ireturn)]
def ke_Guest_earliestDeadline : kb_m := (⟨"BindingKernel$Guest", "earliestDeadline", "(Z)I"⟩, prog_3_method_11_code, 4, some .int, 3, 1, false, 0, 0, ki_Guest_earliestDeadline)
abbrev kz_Guest_loseAllDue : Nat := 89
def ki_Guest_loseAllDue : List (Nat × Jvm.ClassFile.Instr) := [(0, .iconst 0), (1, .istore_n 2), (2, .iconst 0), (3, .istore_n 3), (4, .iload_n 3), (5, .aload_n 0), (6, .getfield 32), (9, .if_icmp .ge (53)), (12, .aload_n 0), (13, .getfield 19), (16, .iload_n 3), (17, .iaload), (18, .iconst 3), (19, .if_icmp .ne (37)), (22, .aload_n 0), (23, .getfield 22), (26, .iload_n 3), (27, .iaload), (28, .iload_n 1), (29, .if_icmp .gt (27)), (32, .aload_n 0), (33, .getfield 19), (36, .iload_n 3), (37, .iconst 1), (38, .iastore), (39, .aload_n 0), (40, .iload_n 3), (41, .invokevirtual 62), (44, .aload_n 0), (45, .getfield 15), (48, .iload_n 3), (49, .iaload), (50, .invokevirtual 66), (53, .iinc 2 (1)), (56, .iinc 3 (1)), (59, .goto (-55)), (62, .aload_n 0), (63, .dup), (64, .getfield 75), (67, .iload_n 2), (68, .iadd), (69, .putfield 75), (72, .iload_n 2), (73, .ireturn)]
def ke_Guest_loseAllDue : kb_m := (⟨"BindingKernel$Guest", "loseAllDue", "(I)I"⟩, prog_3_method_12_code, 4, some .int, 3, 1, false, 1, 21, ki_Guest_loseAllDue)
abbrev kz_Guest_isLive : Nat := 90
def ki_Guest_isLive : List (Nat × Jvm.ClassFile.Instr) := [(0, .aload_n 0), (1, .iload_n 1), (2, .invokevirtual 70), (5, .istore_n 2), (6, .iload_n 2), (7, .iconst 2), (8, .if_icmp .eq (8)), (11, .iload_n 2), (12, .iconst 3), (13, .if_icmp .ne (7)), (16, .iconst 1), (17, .goto (4)), (20, .iconst 0), (21, .ireturn)]
def ke_Guest_isLive : kb_m := (⟨"BindingKernel$Guest", "isLive", "(I)Z"⟩, prog_3_method_13_code, 3, some .boolean, 3, 1, false, 1, 21, ki_Guest_isLive)
abbrev kz_Guest_isLiveOf : Nat := 91
def ki_Guest_isLiveOf : List (Nat × Jvm.ClassFile.Instr) := [(0, .aload_n 0), (1, .iload_n 1), (2, .invokevirtual 58), (5, .ifCond .eq (17)), (8, .aload_n 0), (9, .getfield 9), (12, .iload_n 1), (13, .baload), (14, .iload_n 2), (15, .if_icmp .ne (7)), (18, .iconst 1), (19, .goto (4)), (22, .iconst 0), (23, .ireturn)]
def ke_Guest_isLiveOf : kb_m := (⟨"BindingKernel$Guest", "isLiveOf", "(IZ)Z"⟩, prog_3_method_14_code, 3, some .boolean, 3, 2, false, 2, 43, ki_Guest_isLiveOf)
abbrev kz_Guest_poolOf : Nat := 92
def ki_Guest_poolOf : List (Nat × Jvm.ClassFile.Instr) := [(0, .aload_n 0), (1, .getfield 9), (4, .iload_n 1), (5, .baload), (6, .ifCond .eq (10)), (9, .aload_n 0), (10, .getfield 29), (13, .goto (7)), (16, .aload_n 0), (17, .getfield 25), (20, .areturn)]
def ke_Guest_poolOf : kb_m := (⟨"BindingKernel$Guest", "poolOf", "(I)LBindingKernel$Pool;"⟩, prog_3_method_15_code, 2, some (.object "BindingKernel$Pool"), 3, 1, false, 0, 0, ki_Guest_poolOf)
abbrev kz_Kernel_poolOf : Nat := 93
def ki_Kernel_poolOf : List (Nat × Jvm.ClassFile.Instr) := [(0, .iload_n 1), (1, .ifCond .eq (10)), (4, .aload_n 0), (5, .getfield 20), (8, .goto (7)), (11, .aload_n 0), (12, .getfield 14), (15, .areturn)]
def ke_Kernel_poolOf : kb_m := (⟨"BindingKernel$Kernel", "poolOf", "(Z)LBindingKernel$Pool;"⟩, prog_4_method_2_code, 2, some (.object "BindingKernel$Pool"), 1, 1, false, 0, 0, ki_Kernel_poolOf)
abbrev kz_Kernel_guestOf : Nat := 94
def ki_Kernel_guestOf : List (Nat × Jvm.ClassFile.Instr) := [(0, .iload_n 1), (1, .iconst 2), (2, .if_icmp .ne (8)), (5, .aload_n 0), (6, .getfield 28), (9, .areturn), (10, .iload_n 1), (11, .iconst 3), (12, .if_icmp .ne (10)), (15, .aload_n 0), (16, .getfield 32), (19, .goto (4)), (22, .aconst_null), (23, .areturn)]
def ke_Kernel_guestOf : kb_m := (⟨"BindingKernel$Kernel", "guestOf", "(I)LBindingKernel$Guest;"⟩, prog_4_method_3_code, 2, some (.object "BindingKernel$Guest"), 1, 1, false, 0, 0, ki_Kernel_guestOf)
abbrev kz_Kernel_bindForGuest : Nat := 95
def ki_Kernel_bindForGuest : List (Nat × Jvm.ClassFile.Instr) := [(0, .aload_n 0), (1, .iload_n 1), (2, .invokevirtual 35), (5, .astore_n 3), (6, .aload_n 3), (7, .ifnull (10)), (10, .aload_n 3), (11, .invokevirtual 39), (14, .ifCond .eq (5)), (17, .iconst (-1)), (18, .ireturn), (19, .aload_n 0), (20, .iload_n 1), (21, .iload_n 2), (22, .invokevirtual 43), (25, .istore 4), (27, .iload 4), (29, .ifCond .lt (13)), (32, .aload_n 3), (33, .iload_n 2), (34, .iload 4), (36, .invokevirtual 47), (39, .goto (5)), (42, .iload 4), (44, .ireturn)]
def ke_Kernel_bindForGuest : kb_m := (⟨"BindingKernel$Kernel", "bindForGuest", "(IZ)I"⟩, prog_4_method_4_code, 5, some .int, 1, 2, false, 3, 85, ki_Kernel_bindForGuest)
abbrev kz_Kernel_bindForApplication : Nat := 96
def ki_Kernel_bindForApplication : List (Nat × Jvm.ClassFile.Instr) := [(0, .aload_n 0), (1, .iload_n 1), (2, .iload_n 2), (3, .invokevirtual 43), (6, .istore_n 3), (7, .iload_n 3), (8, .bipush (-3)), (10, .if_icmp .ne (23)), (13, .aload_n 0), (14, .aload_n 0), (15, .iload_n 2), (16, .invokevirtual 51), (19, .invokevirtual 55), (22, .pop), (23, .aload_n 0), (24, .iload_n 2), (25, .invokevirtual 59), (28, .iload_n 1), (29, .invokevirtual 63), (32, .istore_n 3), (33, .iload_n 3), (34, .iconst (-1)), (35, .invokestatic 66), (38, .ireturn)]
def ke_Kernel_bindForApplication : kb_m := (⟨"BindingKernel$Kernel", "bindForApplication", "(IZ)I"⟩, prog_4_method_5_code, 4, some .int, 1, 2, false, 3, 85, ki_Kernel_bindForApplication)
abbrev kz_Kernel_moveTimeTo : Nat := 97
def ki_Kernel_moveTimeTo : List (Nat × Jvm.ClassFile.Instr) := [(0, .aload_n 0), (1, .iload_n 1), (2, .putfield 72), (5, .aload_n 0), (6, .getfield 28), (9, .aload_n 0), (10, .getfield 72), (13, .invokevirtual 76), (16, .aload_n 0), (17, .getfield 32), (20, .aload_n 0), (21, .getfield 72), (24, .invokevirtual 76), (27, .iadd), (28, .ireturn)]
def ke_Kernel_moveTimeTo : kb_m := (⟨"BindingKernel$Kernel", "moveTimeTo", "(I)I"⟩, prog_4_method_6_code, 2, some .int, 1, 1, false, 2, 44, ki_Kernel_moveTimeTo)
abbrev kz_Kernel_claim : Nat := 98
def ki_Kernel_claim : List (Nat × Jvm.ClassFile.Instr) := [(0, .aload_n 0), (1, .iload_n 2), (2, .invokevirtual 59), (5, .astore_n 3), (6, .aload_n 3), (7, .iload_n 1), (8, .invokevirtual 63), (11, .istore 4), (13, .iload 4), (15, .iconst (-1)), (16, .if_icmp .eq (6)), (19, .iload 4), (21, .ireturn), (22, .aload_n 3), (23, .iload_n 1), (24, .invokevirtual 79), (27, .ifCond .eq (6)), (30, .bipush (-2)), (32, .ireturn), (33, .aload_n 0), (34, .iload_n 2), (35, .invokevirtual 51), (38, .ldc 83), (40, .if_icmp .ne (8)), (43, .aload_n 0), (44, .iload_n 2), (45, .invokevirtual 84), (48, .bipush (-3)), (50, .ireturn)]
def ke_Kernel_claim : kb_m := (⟨"BindingKernel$Kernel", "claim", "(IZ)I"⟩, prog_4_method_7_code, 5, some .int, 1, 2, false, 2, 61, ki_Kernel_claim)
abbrev kz_Kernel_askRicherGuest : Nat := 99
def ki_Kernel_askRicherGuest : List (Nat × Jvm.ClassFile.Instr) := [(0, .aload_n 0), (1, .iload_n 1), (2, .invokevirtual 59), (5, .astore_n 2), (6, .aload_n 2), (7, .iconst 2), (8, .invokevirtual 88), (11, .istore_n 3), (12, .aload_n 2), (13, .iconst 3), (14, .invokevirtual 88), (17, .istore 4), (19, .iload_n 3), (20, .iload 4), (22, .if_icmp .lt (10)), (25, .aload_n 0), (26, .getfield 28), (29, .goto (7)), (32, .aload_n 0), (33, .getfield 32), (36, .astore 5), (38, .aload 5), (40, .iload_n 1), (41, .aload_n 0), (42, .getfield 72), (45, .iconst 5), (46, .iadd), (47, .invokevirtual 91), (50, .return_)]
def ke_Kernel_askRicherGuest : kb_m := (⟨"BindingKernel$Kernel", "askRicherGuest", "(Z)V"⟩, prog_4_method_8_code, 6, none, 1, 1, false, 1, 26, ki_Kernel_askRicherGuest)
abbrev kz_Kernel_earliestDeadline : Nat := 100
def ki_Kernel_earliestDeadline : List (Nat × Jvm.ClassFile.Instr) := [(0, .aload_n 0), (1, .getfield 28), (4, .iload_n 1), (5, .invokevirtual 95), (8, .aload_n 0), (9, .getfield 32), (12, .iload_n 1), (13, .invokevirtual 95), (16, .invokestatic 96), (19, .ireturn)]
def ke_Kernel_earliestDeadline : kb_m := (⟨"BindingKernel$Kernel", "earliestDeadline", "(Z)I"⟩, prog_4_method_9_code, 2, some .int, 1, 1, false, 1, 40, ki_Kernel_earliestDeadline)
abbrev kz_Pool_bindFreeOne : Nat := 101
def ki_Pool_bindFreeOne : List (Nat × Jvm.ClassFile.Instr) := [(0, .iconst 0), (1, .istore_n 2), (2, .iload_n 2), (3, .aload_n 0), (4, .getfield 15), (7, .arraylength), (8, .if_icmp .ge (52)), (11, .aload_n 0), (12, .getfield 15), (15, .iload_n 2), (16, .iaload), (17, .iconst (-1)), (18, .if_icmp .ne (36)), (21, .aload_n 0), (22, .getfield 15), (25, .iload_n 2), (26, .iload_n 1), (27, .iastore), (28, .iconst 0), (29, .istore_n 3), (30, .iload_n 3), (31, .iconst 4), (32, .if_icmp .ge (20)), (35, .aload_n 0), (36, .getfield 19), (39, .iload_n 2), (40, .iconst 4), (41, .imul), (42, .iload_n 3), (43, .iadd), (44, .iconst 0), (45, .iastore), (46, .iinc 3 (1)), (49, .goto (-19)), (52, .iload_n 2), (53, .ireturn), (54, .iinc 2 (1)), (57, .goto (-55)), (60, .iconst (-1)), (61, .ireturn)]
def ke_Pool_bindFreeOne : kb_m := (⟨"BindingKernel$Pool", "bindFreeOne", "(I)I"⟩, prog_5_method_2_code, 4, some .int, 2, 1, false, 0, 0, ki_Pool_bindFreeOne)
abbrev kz_Pool_endBinding : Nat := 102
def ki_Pool_endBinding : List (Nat × Jvm.ClassFile.Instr) := [(0, .iload_n 1), (1, .ifCond .lt (19)), (4, .iload_n 1), (5, .aload_n 0), (6, .getfield 15), (9, .arraylength), (10, .if_icmp .ge (10)), (13, .aload_n 0), (14, .getfield 15), (17, .iload_n 1), (18, .iconst (-1)), (19, .iastore), (20, .return_)]
def ke_Pool_endBinding : kb_m := (⟨"BindingKernel$Pool", "endBinding", "(I)V"⟩, prog_5_method_3_code, 2, none, 2, 1, false, 0, 0, ki_Pool_endBinding)
abbrev kz_Pool_countFree : Nat := 103
def ki_Pool_countFree : List (Nat × Jvm.ClassFile.Instr) := [(0, .aload_n 0), (1, .iconst (-1)), (2, .invokevirtual 28), (5, .ireturn)]
def ke_Pool_countFree : kb_m := (⟨"BindingKernel$Pool", "countFree", "()I"⟩, prog_5_method_4_code, 1, some .int, 2, 0, false, 1, 26, ki_Pool_countFree)
abbrev kz_Pool_countHeldBy : Nat := 104
def ki_Pool_countHeldBy : List (Nat × Jvm.ClassFile.Instr) := [(0, .iconst 0), (1, .istore_n 2), (2, .aload_n 0), (3, .getfield 15), (6, .astore_n 3), (7, .aload_n 3), (8, .arraylength), (9, .istore 4), (11, .iconst 0), (12, .istore 5), (14, .iload 5), (16, .iload 4), (18, .if_icmp .ge (24)), (21, .aload_n 3), (22, .iload 5), (24, .iaload), (25, .istore 6), (27, .iload 6), (29, .iload_n 1), (30, .if_icmp .ne (6)), (33, .iinc 2 (1)), (36, .iinc 5 (1)), (39, .goto (-25)), (42, .iload_n 2), (43, .ireturn)]
def ke_Pool_countHeldBy : kb_m := (⟨"BindingKernel$Pool", "countHeldBy", "(I)I"⟩, prog_5_method_5_code, 7, some .int, 2, 1, false, 0, 0, ki_Pool_countHeldBy)
abbrev kz_Pool_hasFullShare : Nat := 105
def ki_Pool_hasFullShare : List (Nat × Jvm.ClassFile.Instr) := [(0, .aload_n 0), (1, .iload_n 1), (2, .invokevirtual 28), (5, .aload_n 0), (6, .getfield 9), (9, .if_icmp .lt (7)), (12, .iconst 1), (13, .goto (4)), (16, .iconst 0), (17, .ireturn)]
def ke_Pool_hasFullShare : kb_m := (⟨"BindingKernel$Pool", "hasFullShare", "(I)Z"⟩, prog_5_method_6_code, 2, some .boolean, 2, 1, false, 1, 26, ki_Pool_hasFullShare)
abbrev kz_Pool_wordAt : Nat := 106
def ki_Pool_wordAt : List (Nat × Jvm.ClassFile.Instr) := [(0, .aload_n 0), (1, .iload_n 1), (2, .iload_n 2), (3, .invokevirtual 32), (6, .ifCond .eq (16)), (9, .aload_n 0), (10, .getfield 19), (13, .iload_n 1), (14, .iconst 4), (15, .imul), (16, .iload_n 2), (17, .iadd), (18, .iaload), (19, .goto (4)), (22, .iconst 0), (23, .ireturn)]
def ke_Pool_wordAt : kb_m := (⟨"BindingKernel$Pool", "wordAt", "(II)I"⟩, prog_5_method_7_code, 3, some .int, 2, 2, false, 2, 43, ki_Pool_wordAt)
abbrev kz_Pool_setWord : Nat := 107
def ki_Pool_setWord : List (Nat × Jvm.ClassFile.Instr) := [(0, .aload_n 0), (1, .iload_n 1), (2, .iload_n 2), (3, .invokevirtual 32), (6, .ifCond .ne (5)), (9, .iconst 0), (10, .ireturn), (11, .aload_n 0), (12, .getfield 19), (15, .iload_n 1), (16, .iconst 4), (17, .imul), (18, .iload_n 2), (19, .iadd), (20, .iload_n 3), (21, .iastore), (22, .iconst 1), (23, .ireturn)]
def ke_Pool_setWord : kb_m := (⟨"BindingKernel$Pool", "setWord", "(III)Z"⟩, prog_5_method_8_code, 4, some .boolean, 2, 3, false, 2, 43, ki_Pool_setWord)
abbrev kz_Pool_takeWordsFrom : Nat := 108
def ki_Pool_takeWordsFrom : List (Nat × Jvm.ClassFile.Instr) := [(0, .aload_n 1), (1, .iload_n 2), (2, .invokevirtual 36), (5, .ifCond .eq (29)), (8, .aload_n 0), (9, .iload_n 3), (10, .invokevirtual 36), (13, .ifCond .eq (21)), (16, .aload_n 1), (17, .getfield 19), (20, .iload_n 2), (21, .iconst 4), (22, .imul), (23, .aload_n 0), (24, .getfield 19), (27, .iload_n 3), (28, .iconst 4), (29, .imul), (30, .iconst 4), (31, .invokestatic 40), (34, .return_)]
def ke_Pool_takeWordsFrom : kb_m := (⟨"BindingKernel$Pool", "takeWordsFrom", "(LBindingKernel$Pool;II)V"⟩, prog_5_method_9_code, 4, none, 2, 3, false, 1, 40, ki_Pool_takeWordsFrom)
abbrev kz_Pool_hasResource : Nat := 109
def ki_Pool_hasResource : List (Nat × Jvm.ClassFile.Instr) := [(0, .iload_n 1), (1, .ifCond .lt (16)), (4, .iload_n 1), (5, .aload_n 0), (6, .getfield 15), (9, .arraylength), (10, .if_icmp .ge (7)), (13, .iconst 1), (14, .goto (4)), (17, .iconst 0), (18, .ireturn)]
def ke_Pool_hasResource : kb_m := (⟨"BindingKernel$Pool", "hasResource", "(I)Z"⟩, prog_5_method_10_code, 2, some .boolean, 2, 1, false, 0, 0, ki_Pool_hasResource)
abbrev kz_Pool_hasWord : Nat := 110
def ki_Pool_hasWord : List (Nat × Jvm.ClassFile.Instr) := [(0, .aload_n 0), (1, .iload_n 1), (2, .invokevirtual 36), (5, .ifCond .eq (16)), (8, .iload_n 2), (9, .ifCond .lt (12)), (12, .iload_n 2), (13, .iconst 4), (14, .if_icmp .ge (7)), (17, .iconst 1), (18, .goto (4)), (21, .iconst 0), (22, .ireturn)]
def ke_Pool_hasWord : kb_m := (⟨"BindingKernel$Pool", "hasWord", "(II)Z"⟩, prog_5_method_11_code, 3, some .boolean, 2, 2, false, 1, 21, ki_Pool_hasWord)
abbrev kz_Slot_isEmpty : Nat := 111
def ki_Slot_isEmpty : List (Nat × Jvm.ClassFile.Instr) := [(0, .aload_n 0), (1, .getfield 9), (4, .iconst (-1)), (5, .if_icmp .ne (7)), (8, .iconst 1), (9, .goto (4)), (12, .iconst 0), (13, .ireturn)]
def ke_Slot_isEmpty : kb_m := (⟨"BindingKernel$Slot", "isEmpty", "()Z"⟩, prog_6_method_2_code, 1, some .boolean, 5, 0, false, 0, 0, ki_Slot_isEmpty)
def kb_mt : List kb_m := [ke_BK_append, ke_BK_write, ke_BK_read, ke_BK_length, ke_BK_erase, ke_BK_sync, ke_BK_squeeze, ke_BK_bind, ke_BK_put, ke_BK_get, ke_BK_copy, ke_BK_release, ke_BK_ask, ke_BK_state, ke_BK_pass, ke_BK_time, ke_BK_free, ke_BK_held, ke_BK_losses, ke_BK_transfers, ke_BK_applicationOf, ke_BK_isEnvironment, ke_Model_within, ke_Model_blocksOf, ke_Model_liveOf, ke_Model_count, ke_Model_free, ke_Model_held, ke_Model_moveTo, ke_Model_earliest, ke_Model_mark, ke_Model_wish, ke_Model_claim, ke_Model_noFile, ke_Model_noWord, ke_Model_find, ke_Model_remove, ke_Model_add, ke_Model_storeAt, ke_Model_open, ke_Model_change, ke_Model_append, ke_Model_write, ke_Model_read, ke_Model_length, ke_Model_erase, ke_Model_sync, ke_Model_squeeze, ke_Model_bind, ke_Model_live, ke_Model_put, ke_Model_get, ke_Model_copy, ke_Model_release, ke_Model_ask, ke_Model_state, ke_Model_pass, ke_Model_time, ke_Model_losses, ke_Model_transfers, ke_App_appendWord, ke_App_writeWord, ke_App_readWord, ke_App_lengthOf, ke_App_eraseFile, ke_App_storeAllChanged, ke_App_giveUpOldestFrame, ke_App_isFile, ke_App_makeRoomForWord, ke_App_changeWord, ke_App_openPartOf, ke_App_slotFor, ke_App_slotOf, ke_App_oldestSlot, ke_App_load, ke_App_storeIfChanged, ke_App_blockOf, ke_App_dropPart, ke_App_giveFrameBack, ke_Guest_hasAllTickets, ke_Guest_addTicket, ke_Guest_stateOf, ke_Guest_putWord, ke_Guest_getWord, ke_Guest_copyWords, ke_Guest_giveBack, ke_Guest_askFor, ke_Guest_askForLastOf, ke_Guest_earliestDeadline, ke_Guest_loseAllDue, ke_Guest_isLive, ke_Guest_isLiveOf, ke_Guest_poolOf, ke_Kernel_poolOf, ke_Kernel_guestOf, ke_Kernel_bindForGuest, ke_Kernel_bindForApplication, ke_Kernel_moveTimeTo, ke_Kernel_claim, ke_Kernel_askRicherGuest, ke_Kernel_earliestDeadline, ke_Pool_bindFreeOne, ke_Pool_endBinding, ke_Pool_countFree, ke_Pool_countHeldBy, ke_Pool_hasFullShare, ke_Pool_wordAt, ke_Pool_setWord, ke_Pool_takeWordsFrom, ke_Pool_hasResource, ke_Pool_hasWord, ke_Slot_isEmpty]
def kb_m0 : kb_m := (⟨"", "", ""⟩, ⟨#[]⟩, 0, none, 99, 0, false, 0, 0, [])
def kb_me (y : Nat) : kb_m := (kb_mt[y]?).getD kb_m0
def kb_nm (y : Nat) : MethodName := (kb_me y).1
def kb_by (y : Nat) : ByteArray := (kb_me y).2.1
def kb_mL (y : Nat) : Nat := (kb_me y).2.2.1
def kb_rt (y : Nat) : Option FieldType := (kb_me y).2.2.2.1
def kb_o (y : Nat) : Nat := (kb_me y).2.2.2.2.1
def kb_np (y : Nat) : Nat := (kb_me y).2.2.2.2.2.1
def kb_ss (y : Nat) : Bool := (kb_me y).2.2.2.2.2.2.1
def kb_fr (y : Nat) : Nat := (kb_me y).2.2.2.2.2.2.2.1
def kb_lo (y : Nat) : Nat := (kb_me y).2.2.2.2.2.2.2.2.1
def kb_ft (y pc : Nat) : Option Jvm.ClassFile.Instr := kb_lk (kb_me y).2.2.2.2.2.2.2.2.2 pc
def kb_mP (e : kb_m) : Prop := e.2.2.2.2.2.2.2.2.2.all (fun q => decide (decode e.2.1 q.1 = .ok (q.2, kb_len q.2))) = true ∧ e.1.cls = kb_cn e.2.2.2.2.1
def kb_vP (e : kb_m) : Prop := Cond.initialized e.1.cls ∈ kb_all ∧ Cond.code e.1 e.2.1 e.2.2.1 e.2.2.2.1 ∈ kb_all ∧ e.1.cls ≠ "java/lang/invoke/MethodHandle" ∧ e.1.cls ≠ "java/lang/invoke/VarHandle" ∧ (parseMethodDescriptor e.1.desc).map (fun d => d.parameters.length) = some e.2.2.2.2.2.1 ∧ plainName e.1.cls = true
def kb_iP (e : kb_m) : Prop := kb_vP e ∧ Cond.instanceMethod e.1 ∈ kb_all ∧ Cond.selects e.1.cls e.1 e.1 ∈ kb_all ∧ e.2.2.2.2.2.1 + 1 ≤ e.2.2.1 ∧ ∃ T n, kb_cl[e.2.2.2.2.1]? = some (e.1.cls, T, n)
def kb_sP (e : kb_m) : Prop := kb_vP e ∧ Cond.static e.1 ∈ kb_all ∧ e.2.2.2.2.2.1 ≤ e.2.2.1
set_option maxRecDepth 100000 in
theorem kd_BK_append : kb_mP ke_BK_append := ⟨by decide +kernel, rfl⟩
set_option maxRecDepth 100000 in
theorem kw_BK_append : kb_vP ke_BK_append := ⟨kb_all_in (List.mem_of_getElem? (i := 38) rfl) rfl, kb_all_in (List.mem_of_getElem? (i := 201) rfl) rfl, by decide +kernel, by decide +kernel, by decide +kernel, by decide +kernel⟩
set_option maxRecDepth 100000 in
theorem kj_BK_append : kb_iP ke_BK_append := ⟨kw_BK_append, kb_all_in (List.mem_of_getElem? (i := 199) rfl) rfl, kb_all_in (List.mem_of_getElem? (i := 200) rfl) rfl, by decide +kernel, _, _, rfl⟩
set_option maxRecDepth 100000 in
theorem kd_BK_write : kb_mP ke_BK_write := ⟨by decide +kernel, rfl⟩
set_option maxRecDepth 100000 in
theorem kw_BK_write : kb_vP ke_BK_write := ⟨kb_all_in (List.mem_of_getElem? (i := 38) rfl) rfl, kb_all_in (List.mem_of_getElem? (i := 341) rfl) rfl, by decide +kernel, by decide +kernel, by decide +kernel, by decide +kernel⟩
set_option maxRecDepth 100000 in
theorem kj_BK_write : kb_iP ke_BK_write := ⟨kw_BK_write, kb_all_in (List.mem_of_getElem? (i := 339) rfl) rfl, kb_all_in (List.mem_of_getElem? (i := 340) rfl) rfl, by decide +kernel, _, _, rfl⟩
set_option maxRecDepth 100000 in
theorem kd_BK_read : kb_mP ke_BK_read := ⟨by decide +kernel, rfl⟩
set_option maxRecDepth 100000 in
theorem kw_BK_read : kb_vP ke_BK_read := ⟨kb_all_in (List.mem_of_getElem? (i := 38) rfl) rfl, kb_all_in (List.mem_of_getElem? (i := 349) rfl) rfl, by decide +kernel, by decide +kernel, by decide +kernel, by decide +kernel⟩
set_option maxRecDepth 100000 in
theorem kj_BK_read : kb_iP ke_BK_read := ⟨kw_BK_read, kb_all_in (List.mem_of_getElem? (i := 347) rfl) rfl, kb_all_in (List.mem_of_getElem? (i := 348) rfl) rfl, by decide +kernel, _, _, rfl⟩
set_option maxRecDepth 100000 in
theorem kd_BK_length : kb_mP ke_BK_length := ⟨by decide +kernel, rfl⟩
set_option maxRecDepth 100000 in
theorem kw_BK_length : kb_vP ke_BK_length := ⟨kb_all_in (List.mem_of_getElem? (i := 38) rfl) rfl, kb_all_in (List.mem_of_getElem? (i := 361) rfl) rfl, by decide +kernel, by decide +kernel, by decide +kernel, by decide +kernel⟩
set_option maxRecDepth 100000 in
theorem kj_BK_length : kb_iP ke_BK_length := ⟨kw_BK_length, kb_all_in (List.mem_of_getElem? (i := 359) rfl) rfl, kb_all_in (List.mem_of_getElem? (i := 360) rfl) rfl, by decide +kernel, _, _, rfl⟩
set_option maxRecDepth 100000 in
theorem kd_BK_erase : kb_mP ke_BK_erase := ⟨by decide +kernel, rfl⟩
set_option maxRecDepth 100000 in
theorem kw_BK_erase : kb_vP ke_BK_erase := ⟨kb_all_in (List.mem_of_getElem? (i := 38) rfl) rfl, kb_all_in (List.mem_of_getElem? (i := 369) rfl) rfl, by decide +kernel, by decide +kernel, by decide +kernel, by decide +kernel⟩
set_option maxRecDepth 100000 in
theorem kj_BK_erase : kb_iP ke_BK_erase := ⟨kw_BK_erase, kb_all_in (List.mem_of_getElem? (i := 367) rfl) rfl, kb_all_in (List.mem_of_getElem? (i := 368) rfl) rfl, by decide +kernel, _, _, rfl⟩
set_option maxRecDepth 100000 in
theorem kd_BK_sync : kb_mP ke_BK_sync := ⟨by decide +kernel, rfl⟩
set_option maxRecDepth 100000 in
theorem kw_BK_sync : kb_vP ke_BK_sync := ⟨kb_all_in (List.mem_of_getElem? (i := 38) rfl) rfl, kb_all_in (List.mem_of_getElem? (i := 386) rfl) rfl, by decide +kernel, by decide +kernel, by decide +kernel, by decide +kernel⟩
set_option maxRecDepth 100000 in
theorem kj_BK_sync : kb_iP ke_BK_sync := ⟨kw_BK_sync, kb_all_in (List.mem_of_getElem? (i := 384) rfl) rfl, kb_all_in (List.mem_of_getElem? (i := 385) rfl) rfl, by decide +kernel, _, _, rfl⟩
set_option maxRecDepth 100000 in
theorem kd_BK_squeeze : kb_mP ke_BK_squeeze := ⟨by decide +kernel, rfl⟩
set_option maxRecDepth 100000 in
theorem kw_BK_squeeze : kb_vP ke_BK_squeeze := ⟨kb_all_in (List.mem_of_getElem? (i := 38) rfl) rfl, kb_all_in (List.mem_of_getElem? (i := 394) rfl) rfl, by decide +kernel, by decide +kernel, by decide +kernel, by decide +kernel⟩
set_option maxRecDepth 100000 in
theorem kj_BK_squeeze : kb_iP ke_BK_squeeze := ⟨kw_BK_squeeze, kb_all_in (List.mem_of_getElem? (i := 392) rfl) rfl, kb_all_in (List.mem_of_getElem? (i := 393) rfl) rfl, by decide +kernel, _, _, rfl⟩
set_option maxRecDepth 100000 in
theorem kd_BK_bind : kb_mP ke_BK_bind := ⟨by decide +kernel, rfl⟩
set_option maxRecDepth 100000 in
theorem kw_BK_bind : kb_vP ke_BK_bind := ⟨kb_all_in (List.mem_of_getElem? (i := 38) rfl) rfl, kb_all_in (List.mem_of_getElem? (i := 402) rfl) rfl, by decide +kernel, by decide +kernel, by decide +kernel, by decide +kernel⟩
set_option maxRecDepth 100000 in
theorem kj_BK_bind : kb_iP ke_BK_bind := ⟨kw_BK_bind, kb_all_in (List.mem_of_getElem? (i := 400) rfl) rfl, kb_all_in (List.mem_of_getElem? (i := 401) rfl) rfl, by decide +kernel, _, _, rfl⟩
set_option maxRecDepth 100000 in
theorem kd_BK_put : kb_mP ke_BK_put := ⟨by decide +kernel, rfl⟩
set_option maxRecDepth 100000 in
theorem kw_BK_put : kb_vP ke_BK_put := ⟨kb_all_in (List.mem_of_getElem? (i := 38) rfl) rfl, kb_all_in (List.mem_of_getElem? (i := 423) rfl) rfl, by decide +kernel, by decide +kernel, by decide +kernel, by decide +kernel⟩
set_option maxRecDepth 100000 in
theorem kj_BK_put : kb_iP ke_BK_put := ⟨kw_BK_put, kb_all_in (List.mem_of_getElem? (i := 421) rfl) rfl, kb_all_in (List.mem_of_getElem? (i := 422) rfl) rfl, by decide +kernel, _, _, rfl⟩
set_option maxRecDepth 100000 in
theorem kd_BK_get : kb_mP ke_BK_get := ⟨by decide +kernel, rfl⟩
set_option maxRecDepth 100000 in
theorem kw_BK_get : kb_vP ke_BK_get := ⟨kb_all_in (List.mem_of_getElem? (i := 38) rfl) rfl, kb_all_in (List.mem_of_getElem? (i := 445) rfl) rfl, by decide +kernel, by decide +kernel, by decide +kernel, by decide +kernel⟩
set_option maxRecDepth 100000 in
theorem kj_BK_get : kb_iP ke_BK_get := ⟨kw_BK_get, kb_all_in (List.mem_of_getElem? (i := 443) rfl) rfl, kb_all_in (List.mem_of_getElem? (i := 444) rfl) rfl, by decide +kernel, _, _, rfl⟩
set_option maxRecDepth 100000 in
theorem kd_BK_copy : kb_mP ke_BK_copy := ⟨by decide +kernel, rfl⟩
set_option maxRecDepth 100000 in
theorem kw_BK_copy : kb_vP ke_BK_copy := ⟨kb_all_in (List.mem_of_getElem? (i := 38) rfl) rfl, kb_all_in (List.mem_of_getElem? (i := 454) rfl) rfl, by decide +kernel, by decide +kernel, by decide +kernel, by decide +kernel⟩
set_option maxRecDepth 100000 in
theorem kj_BK_copy : kb_iP ke_BK_copy := ⟨kw_BK_copy, kb_all_in (List.mem_of_getElem? (i := 452) rfl) rfl, kb_all_in (List.mem_of_getElem? (i := 453) rfl) rfl, by decide +kernel, _, _, rfl⟩
set_option maxRecDepth 100000 in
theorem kd_BK_release : kb_mP ke_BK_release := ⟨by decide +kernel, rfl⟩
set_option maxRecDepth 100000 in
theorem kw_BK_release : kb_vP ke_BK_release := ⟨kb_all_in (List.mem_of_getElem? (i := 38) rfl) rfl, kb_all_in (List.mem_of_getElem? (i := 463) rfl) rfl, by decide +kernel, by decide +kernel, by decide +kernel, by decide +kernel⟩
set_option maxRecDepth 100000 in
theorem kj_BK_release : kb_iP ke_BK_release := ⟨kw_BK_release, kb_all_in (List.mem_of_getElem? (i := 461) rfl) rfl, kb_all_in (List.mem_of_getElem? (i := 462) rfl) rfl, by decide +kernel, _, _, rfl⟩
set_option maxRecDepth 100000 in
theorem kd_BK_ask : kb_mP ke_BK_ask := ⟨by decide +kernel, rfl⟩
set_option maxRecDepth 100000 in
theorem kw_BK_ask : kb_vP ke_BK_ask := ⟨kb_all_in (List.mem_of_getElem? (i := 38) rfl) rfl, kb_all_in (List.mem_of_getElem? (i := 471) rfl) rfl, by decide +kernel, by decide +kernel, by decide +kernel, by decide +kernel⟩
set_option maxRecDepth 100000 in
theorem kj_BK_ask : kb_iP ke_BK_ask := ⟨kw_BK_ask, kb_all_in (List.mem_of_getElem? (i := 469) rfl) rfl, kb_all_in (List.mem_of_getElem? (i := 470) rfl) rfl, by decide +kernel, _, _, rfl⟩
set_option maxRecDepth 100000 in
theorem kd_BK_state : kb_mP ke_BK_state := ⟨by decide +kernel, rfl⟩
set_option maxRecDepth 100000 in
theorem kw_BK_state : kb_vP ke_BK_state := ⟨kb_all_in (List.mem_of_getElem? (i := 38) rfl) rfl, kb_all_in (List.mem_of_getElem? (i := 479) rfl) rfl, by decide +kernel, by decide +kernel, by decide +kernel, by decide +kernel⟩
set_option maxRecDepth 100000 in
theorem kj_BK_state : kb_iP ke_BK_state := ⟨kw_BK_state, kb_all_in (List.mem_of_getElem? (i := 477) rfl) rfl, kb_all_in (List.mem_of_getElem? (i := 478) rfl) rfl, by decide +kernel, _, _, rfl⟩
set_option maxRecDepth 100000 in
theorem kd_BK_pass : kb_mP ke_BK_pass := ⟨by decide +kernel, rfl⟩
set_option maxRecDepth 100000 in
theorem kw_BK_pass : kb_vP ke_BK_pass := ⟨kb_all_in (List.mem_of_getElem? (i := 38) rfl) rfl, kb_all_in (List.mem_of_getElem? (i := 484) rfl) rfl, by decide +kernel, by decide +kernel, by decide +kernel, by decide +kernel⟩
set_option maxRecDepth 100000 in
theorem kj_BK_pass : kb_iP ke_BK_pass := ⟨kw_BK_pass, kb_all_in (List.mem_of_getElem? (i := 482) rfl) rfl, kb_all_in (List.mem_of_getElem? (i := 483) rfl) rfl, by decide +kernel, _, _, rfl⟩
set_option maxRecDepth 100000 in
theorem kd_BK_time : kb_mP ke_BK_time := ⟨by decide +kernel, rfl⟩
set_option maxRecDepth 100000 in
theorem kw_BK_time : kb_vP ke_BK_time := ⟨kb_all_in (List.mem_of_getElem? (i := 38) rfl) rfl, kb_all_in (List.mem_of_getElem? (i := 489) rfl) rfl, by decide +kernel, by decide +kernel, by decide +kernel, by decide +kernel⟩
set_option maxRecDepth 100000 in
theorem kj_BK_time : kb_iP ke_BK_time := ⟨kw_BK_time, kb_all_in (List.mem_of_getElem? (i := 487) rfl) rfl, kb_all_in (List.mem_of_getElem? (i := 488) rfl) rfl, by decide +kernel, _, _, rfl⟩
set_option maxRecDepth 100000 in
theorem kd_BK_free : kb_mP ke_BK_free := ⟨by decide +kernel, rfl⟩
set_option maxRecDepth 100000 in
theorem kw_BK_free : kb_vP ke_BK_free := ⟨kb_all_in (List.mem_of_getElem? (i := 38) rfl) rfl, kb_all_in (List.mem_of_getElem? (i := 493) rfl) rfl, by decide +kernel, by decide +kernel, by decide +kernel, by decide +kernel⟩
set_option maxRecDepth 100000 in
theorem kj_BK_free : kb_iP ke_BK_free := ⟨kw_BK_free, kb_all_in (List.mem_of_getElem? (i := 491) rfl) rfl, kb_all_in (List.mem_of_getElem? (i := 492) rfl) rfl, by decide +kernel, _, _, rfl⟩
set_option maxRecDepth 100000 in
theorem kd_BK_held : kb_mP ke_BK_held := ⟨by decide +kernel, rfl⟩
set_option maxRecDepth 100000 in
theorem kw_BK_held : kb_vP ke_BK_held := ⟨kb_all_in (List.mem_of_getElem? (i := 38) rfl) rfl, kb_all_in (List.mem_of_getElem? (i := 502) rfl) rfl, by decide +kernel, by decide +kernel, by decide +kernel, by decide +kernel⟩
set_option maxRecDepth 100000 in
theorem kj_BK_held : kb_iP ke_BK_held := ⟨kw_BK_held, kb_all_in (List.mem_of_getElem? (i := 500) rfl) rfl, kb_all_in (List.mem_of_getElem? (i := 501) rfl) rfl, by decide +kernel, _, _, rfl⟩
set_option maxRecDepth 100000 in
theorem kd_BK_losses : kb_mP ke_BK_losses := ⟨by decide +kernel, rfl⟩
set_option maxRecDepth 100000 in
theorem kw_BK_losses : kb_vP ke_BK_losses := ⟨kb_all_in (List.mem_of_getElem? (i := 38) rfl) rfl, kb_all_in (List.mem_of_getElem? (i := 510) rfl) rfl, by decide +kernel, by decide +kernel, by decide +kernel, by decide +kernel⟩
set_option maxRecDepth 100000 in
theorem kj_BK_losses : kb_iP ke_BK_losses := ⟨kw_BK_losses, kb_all_in (List.mem_of_getElem? (i := 508) rfl) rfl, kb_all_in (List.mem_of_getElem? (i := 509) rfl) rfl, by decide +kernel, _, _, rfl⟩
set_option maxRecDepth 100000 in
theorem kd_BK_transfers : kb_mP ke_BK_transfers := ⟨by decide +kernel, rfl⟩
set_option maxRecDepth 100000 in
theorem kw_BK_transfers : kb_vP ke_BK_transfers := ⟨kb_all_in (List.mem_of_getElem? (i := 38) rfl) rfl, kb_all_in (List.mem_of_getElem? (i := 514) rfl) rfl, by decide +kernel, by decide +kernel, by decide +kernel, by decide +kernel⟩
set_option maxRecDepth 100000 in
theorem kj_BK_transfers : kb_iP ke_BK_transfers := ⟨kw_BK_transfers, kb_all_in (List.mem_of_getElem? (i := 512) rfl) rfl, kb_all_in (List.mem_of_getElem? (i := 513) rfl) rfl, by decide +kernel, _, _, rfl⟩
set_option maxRecDepth 100000 in
theorem kd_BK_applicationOf : kb_mP ke_BK_applicationOf := ⟨by decide +kernel, rfl⟩
set_option maxRecDepth 100000 in
theorem kw_BK_applicationOf : kb_vP ke_BK_applicationOf := ⟨kb_all_in (List.mem_of_getElem? (i := 38) rfl) rfl, kb_all_in (List.mem_of_getElem? (i := 205) rfl) rfl, by decide +kernel, by decide +kernel, by decide +kernel, by decide +kernel⟩
set_option maxRecDepth 100000 in
theorem kj_BK_applicationOf : kb_iP ke_BK_applicationOf := ⟨kw_BK_applicationOf, kb_all_in (List.mem_of_getElem? (i := 204) rfl) rfl, kb_all_in (List.mem_of_getElem? (i := 0) rfl) rfl, by decide +kernel, _, _, rfl⟩
set_option maxRecDepth 100000 in
theorem kd_BK_isEnvironment : kb_mP ke_BK_isEnvironment := ⟨by decide +kernel, rfl⟩
set_option maxRecDepth 100000 in
theorem kw_BK_isEnvironment : kb_vP ke_BK_isEnvironment := ⟨kb_all_in (List.mem_of_getElem? (i := 38) rfl) rfl, kb_all_in (List.mem_of_getElem? (i := 505) rfl) rfl, by decide +kernel, by decide +kernel, by decide +kernel, by decide +kernel⟩
set_option maxRecDepth 100000 in
theorem kj_BK_isEnvironment : kb_sP ke_BK_isEnvironment := ⟨kw_BK_isEnvironment, kb_all_in (List.mem_of_getElem? (i := 504) rfl) rfl, by decide +kernel⟩
set_option maxRecDepth 100000 in
theorem kd_Model_within : kb_mP ke_Model_within := ⟨by decide +kernel, rfl⟩
set_option maxRecDepth 100000 in
theorem kw_Model_within : kb_vP ke_Model_within := ⟨kb_all_in (List.mem_of_getElem? (i := 45) rfl) rfl, kb_all_in (List.mem_of_getElem? (i := 586) rfl) rfl, by decide +kernel, by decide +kernel, by decide +kernel, by decide +kernel⟩
set_option maxRecDepth 100000 in
theorem kj_Model_within : kb_sP ke_Model_within := ⟨kw_Model_within, kb_all_in (List.mem_of_getElem? (i := 585) rfl) rfl, by decide +kernel⟩
set_option maxRecDepth 100000 in
theorem kd_Model_blocksOf : kb_mP ke_Model_blocksOf := ⟨by decide +kernel, rfl⟩
set_option maxRecDepth 100000 in
theorem kw_Model_blocksOf : kb_vP ke_Model_blocksOf := ⟨kb_all_in (List.mem_of_getElem? (i := 45) rfl) rfl, kb_all_in (List.mem_of_getElem? (i := 579) rfl) rfl, by decide +kernel, by decide +kernel, by decide +kernel, by decide +kernel⟩
set_option maxRecDepth 100000 in
theorem kj_Model_blocksOf : kb_iP ke_Model_blocksOf := ⟨kw_Model_blocksOf, kb_all_in (List.mem_of_getElem? (i := 578) rfl) rfl, kb_all_in (List.mem_of_getElem? (i := 22) rfl) rfl, by decide +kernel, _, _, rfl⟩
set_option maxRecDepth 100000 in
theorem kd_Model_liveOf : kb_mP ke_Model_liveOf := ⟨by decide +kernel, rfl⟩
set_option maxRecDepth 100000 in
theorem kw_Model_liveOf : kb_vP ke_Model_liveOf := ⟨kb_all_in (List.mem_of_getElem? (i := 45) rfl) rfl, kb_all_in (List.mem_of_getElem? (i := 575) rfl) rfl, by decide +kernel, by decide +kernel, by decide +kernel, by decide +kernel⟩
set_option maxRecDepth 100000 in
theorem kj_Model_liveOf : kb_iP ke_Model_liveOf := ⟨kw_Model_liveOf, kb_all_in (List.mem_of_getElem? (i := 574) rfl) rfl, kb_all_in (List.mem_of_getElem? (i := 21) rfl) rfl, by decide +kernel, _, _, rfl⟩
set_option maxRecDepth 100000 in
theorem kd_Model_count : kb_mP ke_Model_count := ⟨by decide +kernel, rfl⟩
set_option maxRecDepth 100000 in
theorem kw_Model_count : kb_vP ke_Model_count := ⟨kb_all_in (List.mem_of_getElem? (i := 45) rfl) rfl, kb_all_in (List.mem_of_getElem? (i := 571) rfl) rfl, by decide +kernel, by decide +kernel, by decide +kernel, by decide +kernel⟩
set_option maxRecDepth 100000 in
theorem kj_Model_count : kb_iP ke_Model_count := ⟨kw_Model_count, kb_all_in (List.mem_of_getElem? (i := 570) rfl) rfl, kb_all_in (List.mem_of_getElem? (i := 20) rfl) rfl, by decide +kernel, _, _, rfl⟩
set_option maxRecDepth 100000 in
theorem kd_Model_free : kb_mP ke_Model_free := ⟨by decide +kernel, rfl⟩
set_option maxRecDepth 100000 in
theorem kw_Model_free : kb_vP ke_Model_free := ⟨kb_all_in (List.mem_of_getElem? (i := 45) rfl) rfl, kb_all_in (List.mem_of_getElem? (i := 567) rfl) rfl, by decide +kernel, by decide +kernel, by decide +kernel, by decide +kernel⟩
set_option maxRecDepth 100000 in
theorem kj_Model_free : kb_iP ke_Model_free := ⟨kw_Model_free, kb_all_in (List.mem_of_getElem? (i := 565) rfl) rfl, kb_all_in (List.mem_of_getElem? (i := 566) rfl) rfl, by decide +kernel, _, _, rfl⟩
set_option maxRecDepth 100000 in
theorem kd_Model_held : kb_mP ke_Model_held := ⟨by decide +kernel, rfl⟩
set_option maxRecDepth 100000 in
theorem kw_Model_held : kb_vP ke_Model_held := ⟨kb_all_in (List.mem_of_getElem? (i := 45) rfl) rfl, kb_all_in (List.mem_of_getElem? (i := 583) rfl) rfl, by decide +kernel, by decide +kernel, by decide +kernel, by decide +kernel⟩
set_option maxRecDepth 100000 in
theorem kj_Model_held : kb_iP ke_Model_held := ⟨kw_Model_held, kb_all_in (List.mem_of_getElem? (i := 581) rfl) rfl, kb_all_in (List.mem_of_getElem? (i := 582) rfl) rfl, by decide +kernel, _, _, rfl⟩
set_option maxRecDepth 100000 in
theorem kd_Model_moveTo : kb_mP ke_Model_moveTo := ⟨by decide +kernel, rfl⟩
set_option maxRecDepth 100000 in
theorem kw_Model_moveTo : kb_vP ke_Model_moveTo := ⟨kb_all_in (List.mem_of_getElem? (i := 45) rfl) rfl, kb_all_in (List.mem_of_getElem? (i := 615) rfl) rfl, by decide +kernel, by decide +kernel, by decide +kernel, by decide +kernel⟩
set_option maxRecDepth 100000 in
theorem kj_Model_moveTo : kb_iP ke_Model_moveTo := ⟨kw_Model_moveTo, kb_all_in (List.mem_of_getElem? (i := 614) rfl) rfl, kb_all_in (List.mem_of_getElem? (i := 28) rfl) rfl, by decide +kernel, _, _, rfl⟩
set_option maxRecDepth 100000 in
theorem kd_Model_earliest : kb_mP ke_Model_earliest := ⟨by decide +kernel, rfl⟩
set_option maxRecDepth 100000 in
theorem kw_Model_earliest : kb_vP ke_Model_earliest := ⟨kb_all_in (List.mem_of_getElem? (i := 45) rfl) rfl, kb_all_in (List.mem_of_getElem? (i := 607) rfl) rfl, by decide +kernel, by decide +kernel, by decide +kernel, by decide +kernel⟩
set_option maxRecDepth 100000 in
theorem kj_Model_earliest : kb_iP ke_Model_earliest := ⟨kw_Model_earliest, kb_all_in (List.mem_of_getElem? (i := 606) rfl) rfl, kb_all_in (List.mem_of_getElem? (i := 26) rfl) rfl, by decide +kernel, _, _, rfl⟩
set_option maxRecDepth 100000 in
theorem kd_Model_mark : kb_mP ke_Model_mark := ⟨by decide +kernel, rfl⟩
set_option maxRecDepth 100000 in
theorem kw_Model_mark : kb_vP ke_Model_mark := ⟨kb_all_in (List.mem_of_getElem? (i := 45) rfl) rfl, kb_all_in (List.mem_of_getElem? (i := 611) rfl) rfl, by decide +kernel, by decide +kernel, by decide +kernel, by decide +kernel⟩
set_option maxRecDepth 100000 in
theorem kj_Model_mark : kb_iP ke_Model_mark := ⟨kw_Model_mark, kb_all_in (List.mem_of_getElem? (i := 610) rfl) rfl, kb_all_in (List.mem_of_getElem? (i := 27) rfl) rfl, by decide +kernel, _, _, rfl⟩
set_option maxRecDepth 100000 in
theorem kd_Model_wish : kb_mP ke_Model_wish := ⟨by decide +kernel, rfl⟩
set_option maxRecDepth 100000 in
theorem kw_Model_wish : kb_vP ke_Model_wish := ⟨kb_all_in (List.mem_of_getElem? (i := 45) rfl) rfl, kb_all_in (List.mem_of_getElem? (i := 603) rfl) rfl, by decide +kernel, by decide +kernel, by decide +kernel, by decide +kernel⟩
set_option maxRecDepth 100000 in
theorem kj_Model_wish : kb_iP ke_Model_wish := ⟨kw_Model_wish, kb_all_in (List.mem_of_getElem? (i := 602) rfl) rfl, kb_all_in (List.mem_of_getElem? (i := 25) rfl) rfl, by decide +kernel, _, _, rfl⟩
set_option maxRecDepth 100000 in
theorem kd_Model_claim : kb_mP ke_Model_claim := ⟨by decide +kernel, rfl⟩
set_option maxRecDepth 100000 in
theorem kw_Model_claim : kb_vP ke_Model_claim := ⟨kb_all_in (List.mem_of_getElem? (i := 45) rfl) rfl, kb_all_in (List.mem_of_getElem? (i := 598) rfl) rfl, by decide +kernel, by decide +kernel, by decide +kernel, by decide +kernel⟩
set_option maxRecDepth 100000 in
theorem kj_Model_claim : kb_iP ke_Model_claim := ⟨kw_Model_claim, kb_all_in (List.mem_of_getElem? (i := 597) rfl) rfl, kb_all_in (List.mem_of_getElem? (i := 24) rfl) rfl, by decide +kernel, _, _, rfl⟩
set_option maxRecDepth 100000 in
theorem kd_Model_noFile : kb_mP ke_Model_noFile := ⟨by decide +kernel, rfl⟩
set_option maxRecDepth 100000 in
theorem kw_Model_noFile : kb_vP ke_Model_noFile := ⟨kb_all_in (List.mem_of_getElem? (i := 45) rfl) rfl, kb_all_in (List.mem_of_getElem? (i := 594) rfl) rfl, by decide +kernel, by decide +kernel, by decide +kernel, by decide +kernel⟩
set_option maxRecDepth 100000 in
theorem kj_Model_noFile : kb_iP ke_Model_noFile := ⟨kw_Model_noFile, kb_all_in (List.mem_of_getElem? (i := 593) rfl) rfl, kb_all_in (List.mem_of_getElem? (i := 23) rfl) rfl, by decide +kernel, _, _, rfl⟩
set_option maxRecDepth 100000 in
theorem kd_Model_noWord : kb_mP ke_Model_noWord := ⟨by decide +kernel, rfl⟩
set_option maxRecDepth 100000 in
theorem kw_Model_noWord : kb_vP ke_Model_noWord := ⟨kb_all_in (List.mem_of_getElem? (i := 45) rfl) rfl, kb_all_in (List.mem_of_getElem? (i := 647) rfl) rfl, by decide +kernel, by decide +kernel, by decide +kernel, by decide +kernel⟩
set_option maxRecDepth 100000 in
theorem kj_Model_noWord : kb_iP ke_Model_noWord := ⟨kw_Model_noWord, kb_all_in (List.mem_of_getElem? (i := 646) rfl) rfl, kb_all_in (List.mem_of_getElem? (i := 35) rfl) rfl, by decide +kernel, _, _, rfl⟩
set_option maxRecDepth 100000 in
theorem kd_Model_find : kb_mP ke_Model_find := ⟨by decide +kernel, rfl⟩
set_option maxRecDepth 100000 in
theorem kw_Model_find : kb_vP ke_Model_find := ⟨kb_all_in (List.mem_of_getElem? (i := 45) rfl) rfl, kb_all_in (List.mem_of_getElem? (i := 627) rfl) rfl, by decide +kernel, by decide +kernel, by decide +kernel, by decide +kernel⟩
set_option maxRecDepth 100000 in
theorem kj_Model_find : kb_iP ke_Model_find := ⟨kw_Model_find, kb_all_in (List.mem_of_getElem? (i := 626) rfl) rfl, kb_all_in (List.mem_of_getElem? (i := 31) rfl) rfl, by decide +kernel, _, _, rfl⟩
set_option maxRecDepth 100000 in
theorem kd_Model_remove : kb_mP ke_Model_remove := ⟨by decide +kernel, rfl⟩
set_option maxRecDepth 100000 in
theorem kw_Model_remove : kb_vP ke_Model_remove := ⟨kb_all_in (List.mem_of_getElem? (i := 45) rfl) rfl, kb_all_in (List.mem_of_getElem? (i := 631) rfl) rfl, by decide +kernel, by decide +kernel, by decide +kernel, by decide +kernel⟩
set_option maxRecDepth 100000 in
theorem kj_Model_remove : kb_iP ke_Model_remove := ⟨kw_Model_remove, kb_all_in (List.mem_of_getElem? (i := 630) rfl) rfl, kb_all_in (List.mem_of_getElem? (i := 32) rfl) rfl, by decide +kernel, _, _, rfl⟩
set_option maxRecDepth 100000 in
theorem kd_Model_add : kb_mP ke_Model_add := ⟨by decide +kernel, rfl⟩
set_option maxRecDepth 100000 in
theorem kw_Model_add : kb_vP ke_Model_add := ⟨kb_all_in (List.mem_of_getElem? (i := 45) rfl) rfl, kb_all_in (List.mem_of_getElem? (i := 635) rfl) rfl, by decide +kernel, by decide +kernel, by decide +kernel, by decide +kernel⟩
set_option maxRecDepth 100000 in
theorem kj_Model_add : kb_iP ke_Model_add := ⟨kw_Model_add, kb_all_in (List.mem_of_getElem? (i := 634) rfl) rfl, kb_all_in (List.mem_of_getElem? (i := 33) rfl) rfl, by decide +kernel, _, _, rfl⟩
set_option maxRecDepth 100000 in
theorem kd_Model_storeAt : kb_mP ke_Model_storeAt := ⟨by decide +kernel, rfl⟩
set_option maxRecDepth 100000 in
theorem kw_Model_storeAt : kb_vP ke_Model_storeAt := ⟨kb_all_in (List.mem_of_getElem? (i := 45) rfl) rfl, kb_all_in (List.mem_of_getElem? (i := 639) rfl) rfl, by decide +kernel, by decide +kernel, by decide +kernel, by decide +kernel⟩
set_option maxRecDepth 100000 in
theorem kj_Model_storeAt : kb_iP ke_Model_storeAt := ⟨kw_Model_storeAt, kb_all_in (List.mem_of_getElem? (i := 638) rfl) rfl, kb_all_in (List.mem_of_getElem? (i := 34) rfl) rfl, by decide +kernel, _, _, rfl⟩
set_option maxRecDepth 100000 in
theorem kd_Model_open : kb_mP ke_Model_open := ⟨by decide +kernel, rfl⟩
set_option maxRecDepth 100000 in
theorem kw_Model_open : kb_vP ke_Model_open := ⟨kb_all_in (List.mem_of_getElem? (i := 45) rfl) rfl, kb_all_in (List.mem_of_getElem? (i := 623) rfl) rfl, by decide +kernel, by decide +kernel, by decide +kernel, by decide +kernel⟩
set_option maxRecDepth 100000 in
theorem kj_Model_open : kb_iP ke_Model_open := ⟨kw_Model_open, kb_all_in (List.mem_of_getElem? (i := 622) rfl) rfl, kb_all_in (List.mem_of_getElem? (i := 30) rfl) rfl, by decide +kernel, _, _, rfl⟩
set_option maxRecDepth 100000 in
theorem kd_Model_change : kb_mP ke_Model_change := ⟨by decide +kernel, rfl⟩
set_option maxRecDepth 100000 in
theorem kw_Model_change : kb_vP ke_Model_change := ⟨kb_all_in (List.mem_of_getElem? (i := 45) rfl) rfl, kb_all_in (List.mem_of_getElem? (i := 619) rfl) rfl, by decide +kernel, by decide +kernel, by decide +kernel, by decide +kernel⟩
set_option maxRecDepth 100000 in
theorem kj_Model_change : kb_iP ke_Model_change := ⟨kw_Model_change, kb_all_in (List.mem_of_getElem? (i := 618) rfl) rfl, kb_all_in (List.mem_of_getElem? (i := 29) rfl) rfl, by decide +kernel, _, _, rfl⟩
set_option maxRecDepth 100000 in
theorem kd_Model_append : kb_mP ke_Model_append := ⟨by decide +kernel, rfl⟩
set_option maxRecDepth 100000 in
theorem kw_Model_append : kb_vP ke_Model_append := ⟨kb_all_in (List.mem_of_getElem? (i := 45) rfl) rfl, kb_all_in (List.mem_of_getElem? (i := 590) rfl) rfl, by decide +kernel, by decide +kernel, by decide +kernel, by decide +kernel⟩
set_option maxRecDepth 100000 in
theorem kj_Model_append : kb_iP ke_Model_append := ⟨kw_Model_append, kb_all_in (List.mem_of_getElem? (i := 588) rfl) rfl, kb_all_in (List.mem_of_getElem? (i := 589) rfl) rfl, by decide +kernel, _, _, rfl⟩
set_option maxRecDepth 100000 in
theorem kd_Model_write : kb_mP ke_Model_write := ⟨by decide +kernel, rfl⟩
set_option maxRecDepth 100000 in
theorem kw_Model_write : kb_vP ke_Model_write := ⟨kb_all_in (List.mem_of_getElem? (i := 45) rfl) rfl, kb_all_in (List.mem_of_getElem? (i := 643) rfl) rfl, by decide +kernel, by decide +kernel, by decide +kernel, by decide +kernel⟩
set_option maxRecDepth 100000 in
theorem kj_Model_write : kb_iP ke_Model_write := ⟨kw_Model_write, kb_all_in (List.mem_of_getElem? (i := 641) rfl) rfl, kb_all_in (List.mem_of_getElem? (i := 642) rfl) rfl, by decide +kernel, _, _, rfl⟩
set_option maxRecDepth 100000 in
theorem kd_Model_read : kb_mP ke_Model_read := ⟨by decide +kernel, rfl⟩
set_option maxRecDepth 100000 in
theorem kw_Model_read : kb_vP ke_Model_read := ⟨kb_all_in (List.mem_of_getElem? (i := 45) rfl) rfl, kb_all_in (List.mem_of_getElem? (i := 651) rfl) rfl, by decide +kernel, by decide +kernel, by decide +kernel, by decide +kernel⟩
set_option maxRecDepth 100000 in
theorem kj_Model_read : kb_iP ke_Model_read := ⟨kw_Model_read, kb_all_in (List.mem_of_getElem? (i := 649) rfl) rfl, kb_all_in (List.mem_of_getElem? (i := 650) rfl) rfl, by decide +kernel, _, _, rfl⟩
set_option maxRecDepth 100000 in
theorem kd_Model_length : kb_mP ke_Model_length := ⟨by decide +kernel, rfl⟩
set_option maxRecDepth 100000 in
theorem kw_Model_length : kb_vP ke_Model_length := ⟨kb_all_in (List.mem_of_getElem? (i := 45) rfl) rfl, kb_all_in (List.mem_of_getElem? (i := 655) rfl) rfl, by decide +kernel, by decide +kernel, by decide +kernel, by decide +kernel⟩
set_option maxRecDepth 100000 in
theorem kj_Model_length : kb_iP ke_Model_length := ⟨kw_Model_length, kb_all_in (List.mem_of_getElem? (i := 653) rfl) rfl, kb_all_in (List.mem_of_getElem? (i := 654) rfl) rfl, by decide +kernel, _, _, rfl⟩
set_option maxRecDepth 100000 in
theorem kd_Model_erase : kb_mP ke_Model_erase := ⟨by decide +kernel, rfl⟩
set_option maxRecDepth 100000 in
theorem kw_Model_erase : kb_vP ke_Model_erase := ⟨kb_all_in (List.mem_of_getElem? (i := 45) rfl) rfl, kb_all_in (List.mem_of_getElem? (i := 659) rfl) rfl, by decide +kernel, by decide +kernel, by decide +kernel, by decide +kernel⟩
set_option maxRecDepth 100000 in
theorem kj_Model_erase : kb_iP ke_Model_erase := ⟨kw_Model_erase, kb_all_in (List.mem_of_getElem? (i := 657) rfl) rfl, kb_all_in (List.mem_of_getElem? (i := 658) rfl) rfl, by decide +kernel, _, _, rfl⟩
set_option maxRecDepth 100000 in
theorem kd_Model_sync : kb_mP ke_Model_sync := ⟨by decide +kernel, rfl⟩
set_option maxRecDepth 100000 in
theorem kw_Model_sync : kb_vP ke_Model_sync := ⟨kb_all_in (List.mem_of_getElem? (i := 45) rfl) rfl, kb_all_in (List.mem_of_getElem? (i := 663) rfl) rfl, by decide +kernel, by decide +kernel, by decide +kernel, by decide +kernel⟩
set_option maxRecDepth 100000 in
theorem kj_Model_sync : kb_iP ke_Model_sync := ⟨kw_Model_sync, kb_all_in (List.mem_of_getElem? (i := 661) rfl) rfl, kb_all_in (List.mem_of_getElem? (i := 662) rfl) rfl, by decide +kernel, _, _, rfl⟩
set_option maxRecDepth 100000 in
theorem kd_Model_squeeze : kb_mP ke_Model_squeeze := ⟨by decide +kernel, rfl⟩
set_option maxRecDepth 100000 in
theorem kw_Model_squeeze : kb_vP ke_Model_squeeze := ⟨kb_all_in (List.mem_of_getElem? (i := 45) rfl) rfl, kb_all_in (List.mem_of_getElem? (i := 667) rfl) rfl, by decide +kernel, by decide +kernel, by decide +kernel, by decide +kernel⟩
set_option maxRecDepth 100000 in
theorem kj_Model_squeeze : kb_iP ke_Model_squeeze := ⟨kw_Model_squeeze, kb_all_in (List.mem_of_getElem? (i := 665) rfl) rfl, kb_all_in (List.mem_of_getElem? (i := 666) rfl) rfl, by decide +kernel, _, _, rfl⟩
set_option maxRecDepth 100000 in
theorem kd_Model_bind : kb_mP ke_Model_bind := ⟨by decide +kernel, rfl⟩
set_option maxRecDepth 100000 in
theorem kw_Model_bind : kb_vP ke_Model_bind := ⟨kb_all_in (List.mem_of_getElem? (i := 45) rfl) rfl, kb_all_in (List.mem_of_getElem? (i := 671) rfl) rfl, by decide +kernel, by decide +kernel, by decide +kernel, by decide +kernel⟩
set_option maxRecDepth 100000 in
theorem kj_Model_bind : kb_iP ke_Model_bind := ⟨kw_Model_bind, kb_all_in (List.mem_of_getElem? (i := 669) rfl) rfl, kb_all_in (List.mem_of_getElem? (i := 670) rfl) rfl, by decide +kernel, _, _, rfl⟩
set_option maxRecDepth 100000 in
theorem kd_Model_live : kb_mP ke_Model_live := ⟨by decide +kernel, rfl⟩
set_option maxRecDepth 100000 in
theorem kw_Model_live : kb_vP ke_Model_live := ⟨kb_all_in (List.mem_of_getElem? (i := 45) rfl) rfl, kb_all_in (List.mem_of_getElem? (i := 679) rfl) rfl, by decide +kernel, by decide +kernel, by decide +kernel, by decide +kernel⟩
set_option maxRecDepth 100000 in
theorem kj_Model_live : kb_iP ke_Model_live := ⟨kw_Model_live, kb_all_in (List.mem_of_getElem? (i := 678) rfl) rfl, kb_all_in (List.mem_of_getElem? (i := 36) rfl) rfl, by decide +kernel, _, _, rfl⟩
set_option maxRecDepth 100000 in
theorem kd_Model_put : kb_mP ke_Model_put := ⟨by decide +kernel, rfl⟩
set_option maxRecDepth 100000 in
theorem kw_Model_put : kb_vP ke_Model_put := ⟨kb_all_in (List.mem_of_getElem? (i := 45) rfl) rfl, kb_all_in (List.mem_of_getElem? (i := 675) rfl) rfl, by decide +kernel, by decide +kernel, by decide +kernel, by decide +kernel⟩
set_option maxRecDepth 100000 in
theorem kj_Model_put : kb_iP ke_Model_put := ⟨kw_Model_put, kb_all_in (List.mem_of_getElem? (i := 673) rfl) rfl, kb_all_in (List.mem_of_getElem? (i := 674) rfl) rfl, by decide +kernel, _, _, rfl⟩
set_option maxRecDepth 100000 in
theorem kd_Model_get : kb_mP ke_Model_get := ⟨by decide +kernel, rfl⟩
set_option maxRecDepth 100000 in
theorem kw_Model_get : kb_vP ke_Model_get := ⟨kb_all_in (List.mem_of_getElem? (i := 45) rfl) rfl, kb_all_in (List.mem_of_getElem? (i := 683) rfl) rfl, by decide +kernel, by decide +kernel, by decide +kernel, by decide +kernel⟩
set_option maxRecDepth 100000 in
theorem kj_Model_get : kb_iP ke_Model_get := ⟨kw_Model_get, kb_all_in (List.mem_of_getElem? (i := 681) rfl) rfl, kb_all_in (List.mem_of_getElem? (i := 682) rfl) rfl, by decide +kernel, _, _, rfl⟩
set_option maxRecDepth 100000 in
theorem kd_Model_copy : kb_mP ke_Model_copy := ⟨by decide +kernel, rfl⟩
set_option maxRecDepth 100000 in
theorem kw_Model_copy : kb_vP ke_Model_copy := ⟨kb_all_in (List.mem_of_getElem? (i := 45) rfl) rfl, kb_all_in (List.mem_of_getElem? (i := 687) rfl) rfl, by decide +kernel, by decide +kernel, by decide +kernel, by decide +kernel⟩
set_option maxRecDepth 100000 in
theorem kj_Model_copy : kb_iP ke_Model_copy := ⟨kw_Model_copy, kb_all_in (List.mem_of_getElem? (i := 685) rfl) rfl, kb_all_in (List.mem_of_getElem? (i := 686) rfl) rfl, by decide +kernel, _, _, rfl⟩
set_option maxRecDepth 100000 in
theorem kd_Model_release : kb_mP ke_Model_release := ⟨by decide +kernel, rfl⟩
set_option maxRecDepth 100000 in
theorem kw_Model_release : kb_vP ke_Model_release := ⟨kb_all_in (List.mem_of_getElem? (i := 45) rfl) rfl, kb_all_in (List.mem_of_getElem? (i := 691) rfl) rfl, by decide +kernel, by decide +kernel, by decide +kernel, by decide +kernel⟩
set_option maxRecDepth 100000 in
theorem kj_Model_release : kb_iP ke_Model_release := ⟨kw_Model_release, kb_all_in (List.mem_of_getElem? (i := 689) rfl) rfl, kb_all_in (List.mem_of_getElem? (i := 690) rfl) rfl, by decide +kernel, _, _, rfl⟩
set_option maxRecDepth 100000 in
theorem kd_Model_ask : kb_mP ke_Model_ask := ⟨by decide +kernel, rfl⟩
set_option maxRecDepth 100000 in
theorem kw_Model_ask : kb_vP ke_Model_ask := ⟨kb_all_in (List.mem_of_getElem? (i := 45) rfl) rfl, kb_all_in (List.mem_of_getElem? (i := 695) rfl) rfl, by decide +kernel, by decide +kernel, by decide +kernel, by decide +kernel⟩
set_option maxRecDepth 100000 in
theorem kj_Model_ask : kb_iP ke_Model_ask := ⟨kw_Model_ask, kb_all_in (List.mem_of_getElem? (i := 693) rfl) rfl, kb_all_in (List.mem_of_getElem? (i := 694) rfl) rfl, by decide +kernel, _, _, rfl⟩
set_option maxRecDepth 100000 in
theorem kd_Model_state : kb_mP ke_Model_state := ⟨by decide +kernel, rfl⟩
set_option maxRecDepth 100000 in
theorem kw_Model_state : kb_vP ke_Model_state := ⟨kb_all_in (List.mem_of_getElem? (i := 45) rfl) rfl, kb_all_in (List.mem_of_getElem? (i := 699) rfl) rfl, by decide +kernel, by decide +kernel, by decide +kernel, by decide +kernel⟩
set_option maxRecDepth 100000 in
theorem kj_Model_state : kb_iP ke_Model_state := ⟨kw_Model_state, kb_all_in (List.mem_of_getElem? (i := 697) rfl) rfl, kb_all_in (List.mem_of_getElem? (i := 698) rfl) rfl, by decide +kernel, _, _, rfl⟩
set_option maxRecDepth 100000 in
theorem kd_Model_pass : kb_mP ke_Model_pass := ⟨by decide +kernel, rfl⟩
set_option maxRecDepth 100000 in
theorem kw_Model_pass : kb_vP ke_Model_pass := ⟨kb_all_in (List.mem_of_getElem? (i := 45) rfl) rfl, kb_all_in (List.mem_of_getElem? (i := 703) rfl) rfl, by decide +kernel, by decide +kernel, by decide +kernel, by decide +kernel⟩
set_option maxRecDepth 100000 in
theorem kj_Model_pass : kb_iP ke_Model_pass := ⟨kw_Model_pass, kb_all_in (List.mem_of_getElem? (i := 701) rfl) rfl, kb_all_in (List.mem_of_getElem? (i := 702) rfl) rfl, by decide +kernel, _, _, rfl⟩
set_option maxRecDepth 100000 in
theorem kd_Model_time : kb_mP ke_Model_time := ⟨by decide +kernel, rfl⟩
set_option maxRecDepth 100000 in
theorem kw_Model_time : kb_vP ke_Model_time := ⟨kb_all_in (List.mem_of_getElem? (i := 45) rfl) rfl, kb_all_in (List.mem_of_getElem? (i := 707) rfl) rfl, by decide +kernel, by decide +kernel, by decide +kernel, by decide +kernel⟩
set_option maxRecDepth 100000 in
theorem kj_Model_time : kb_iP ke_Model_time := ⟨kw_Model_time, kb_all_in (List.mem_of_getElem? (i := 705) rfl) rfl, kb_all_in (List.mem_of_getElem? (i := 706) rfl) rfl, by decide +kernel, _, _, rfl⟩
set_option maxRecDepth 100000 in
theorem kd_Model_losses : kb_mP ke_Model_losses := ⟨by decide +kernel, rfl⟩
set_option maxRecDepth 100000 in
theorem kw_Model_losses : kb_vP ke_Model_losses := ⟨kb_all_in (List.mem_of_getElem? (i := 45) rfl) rfl, kb_all_in (List.mem_of_getElem? (i := 711) rfl) rfl, by decide +kernel, by decide +kernel, by decide +kernel, by decide +kernel⟩
set_option maxRecDepth 100000 in
theorem kj_Model_losses : kb_iP ke_Model_losses := ⟨kw_Model_losses, kb_all_in (List.mem_of_getElem? (i := 709) rfl) rfl, kb_all_in (List.mem_of_getElem? (i := 710) rfl) rfl, by decide +kernel, _, _, rfl⟩
set_option maxRecDepth 100000 in
theorem kd_Model_transfers : kb_mP ke_Model_transfers := ⟨by decide +kernel, rfl⟩
set_option maxRecDepth 100000 in
theorem kw_Model_transfers : kb_vP ke_Model_transfers := ⟨kb_all_in (List.mem_of_getElem? (i := 45) rfl) rfl, kb_all_in (List.mem_of_getElem? (i := 715) rfl) rfl, by decide +kernel, by decide +kernel, by decide +kernel, by decide +kernel⟩
set_option maxRecDepth 100000 in
theorem kj_Model_transfers : kb_iP ke_Model_transfers := ⟨kw_Model_transfers, kb_all_in (List.mem_of_getElem? (i := 713) rfl) rfl, kb_all_in (List.mem_of_getElem? (i := 714) rfl) rfl, by decide +kernel, _, _, rfl⟩
set_option maxRecDepth 100000 in
theorem kd_App_appendWord : kb_mP ke_App_appendWord := ⟨by decide +kernel, rfl⟩
set_option maxRecDepth 100000 in
theorem kw_App_appendWord : kb_vP ke_App_appendWord := ⟨kb_all_in (List.mem_of_getElem? (i := 43) rfl) rfl, kb_all_in (List.mem_of_getElem? (i := 209) rfl) rfl, by decide +kernel, by decide +kernel, by decide +kernel, by decide +kernel⟩
set_option maxRecDepth 100000 in
theorem kj_App_appendWord : kb_iP ke_App_appendWord := ⟨kw_App_appendWord, kb_all_in (List.mem_of_getElem? (i := 207) rfl) rfl, kb_all_in (List.mem_of_getElem? (i := 208) rfl) rfl, by decide +kernel, _, _, rfl⟩
set_option maxRecDepth 100000 in
theorem kd_App_writeWord : kb_mP ke_App_writeWord := ⟨by decide +kernel, rfl⟩
set_option maxRecDepth 100000 in
theorem kw_App_writeWord : kb_vP ke_App_writeWord := ⟨kb_all_in (List.mem_of_getElem? (i := 43) rfl) rfl, kb_all_in (List.mem_of_getElem? (i := 345) rfl) rfl, by decide +kernel, by decide +kernel, by decide +kernel, by decide +kernel⟩
set_option maxRecDepth 100000 in
theorem kj_App_writeWord : kb_iP ke_App_writeWord := ⟨kw_App_writeWord, kb_all_in (List.mem_of_getElem? (i := 343) rfl) rfl, kb_all_in (List.mem_of_getElem? (i := 344) rfl) rfl, by decide +kernel, _, _, rfl⟩
set_option maxRecDepth 100000 in
theorem kd_App_readWord : kb_mP ke_App_readWord := ⟨by decide +kernel, rfl⟩
set_option maxRecDepth 100000 in
theorem kw_App_readWord : kb_vP ke_App_readWord := ⟨kb_all_in (List.mem_of_getElem? (i := 43) rfl) rfl, kb_all_in (List.mem_of_getElem? (i := 353) rfl) rfl, by decide +kernel, by decide +kernel, by decide +kernel, by decide +kernel⟩
set_option maxRecDepth 100000 in
theorem kj_App_readWord : kb_iP ke_App_readWord := ⟨kw_App_readWord, kb_all_in (List.mem_of_getElem? (i := 351) rfl) rfl, kb_all_in (List.mem_of_getElem? (i := 352) rfl) rfl, by decide +kernel, _, _, rfl⟩
set_option maxRecDepth 100000 in
theorem kd_App_lengthOf : kb_mP ke_App_lengthOf := ⟨by decide +kernel, rfl⟩
set_option maxRecDepth 100000 in
theorem kw_App_lengthOf : kb_vP ke_App_lengthOf := ⟨kb_all_in (List.mem_of_getElem? (i := 43) rfl) rfl, kb_all_in (List.mem_of_getElem? (i := 365) rfl) rfl, by decide +kernel, by decide +kernel, by decide +kernel, by decide +kernel⟩
set_option maxRecDepth 100000 in
theorem kj_App_lengthOf : kb_iP ke_App_lengthOf := ⟨kw_App_lengthOf, kb_all_in (List.mem_of_getElem? (i := 363) rfl) rfl, kb_all_in (List.mem_of_getElem? (i := 364) rfl) rfl, by decide +kernel, _, _, rfl⟩
set_option maxRecDepth 100000 in
theorem kd_App_eraseFile : kb_mP ke_App_eraseFile := ⟨by decide +kernel, rfl⟩
set_option maxRecDepth 100000 in
theorem kw_App_eraseFile : kb_vP ke_App_eraseFile := ⟨kb_all_in (List.mem_of_getElem? (i := 43) rfl) rfl, kb_all_in (List.mem_of_getElem? (i := 373) rfl) rfl, by decide +kernel, by decide +kernel, by decide +kernel, by decide +kernel⟩
set_option maxRecDepth 100000 in
theorem kj_App_eraseFile : kb_iP ke_App_eraseFile := ⟨kw_App_eraseFile, kb_all_in (List.mem_of_getElem? (i := 371) rfl) rfl, kb_all_in (List.mem_of_getElem? (i := 372) rfl) rfl, by decide +kernel, _, _, rfl⟩
set_option maxRecDepth 100000 in
theorem kd_App_storeAllChanged : kb_mP ke_App_storeAllChanged := ⟨by decide +kernel, rfl⟩
set_option maxRecDepth 100000 in
theorem kw_App_storeAllChanged : kb_vP ke_App_storeAllChanged := ⟨kb_all_in (List.mem_of_getElem? (i := 43) rfl) rfl, kb_all_in (List.mem_of_getElem? (i := 390) rfl) rfl, by decide +kernel, by decide +kernel, by decide +kernel, by decide +kernel⟩
set_option maxRecDepth 100000 in
theorem kj_App_storeAllChanged : kb_iP ke_App_storeAllChanged := ⟨kw_App_storeAllChanged, kb_all_in (List.mem_of_getElem? (i := 388) rfl) rfl, kb_all_in (List.mem_of_getElem? (i := 389) rfl) rfl, by decide +kernel, _, _, rfl⟩
set_option maxRecDepth 100000 in
theorem kd_App_giveUpOldestFrame : kb_mP ke_App_giveUpOldestFrame := ⟨by decide +kernel, rfl⟩
set_option maxRecDepth 100000 in
theorem kw_App_giveUpOldestFrame : kb_vP ke_App_giveUpOldestFrame := ⟨kb_all_in (List.mem_of_getElem? (i := 43) rfl) rfl, kb_all_in (List.mem_of_getElem? (i := 398) rfl) rfl, by decide +kernel, by decide +kernel, by decide +kernel, by decide +kernel⟩
set_option maxRecDepth 100000 in
theorem kj_App_giveUpOldestFrame : kb_iP ke_App_giveUpOldestFrame := ⟨kw_App_giveUpOldestFrame, kb_all_in (List.mem_of_getElem? (i := 396) rfl) rfl, kb_all_in (List.mem_of_getElem? (i := 397) rfl) rfl, by decide +kernel, _, _, rfl⟩
set_option maxRecDepth 100000 in
theorem kd_App_isFile : kb_mP ke_App_isFile := ⟨by decide +kernel, rfl⟩
set_option maxRecDepth 100000 in
theorem kw_App_isFile : kb_vP ke_App_isFile := ⟨kb_all_in (List.mem_of_getElem? (i := 43) rfl) rfl, kb_all_in (List.mem_of_getElem? (i := 212) rfl) rfl, by decide +kernel, by decide +kernel, by decide +kernel, by decide +kernel⟩
set_option maxRecDepth 100000 in
theorem kj_App_isFile : kb_sP ke_App_isFile := ⟨kw_App_isFile, kb_all_in (List.mem_of_getElem? (i := 211) rfl) rfl, by decide +kernel⟩
set_option maxRecDepth 100000 in
theorem kd_App_makeRoomForWord : kb_mP ke_App_makeRoomForWord := ⟨by decide +kernel, rfl⟩
set_option maxRecDepth 100000 in
theorem kw_App_makeRoomForWord : kb_vP ke_App_makeRoomForWord := ⟨kb_all_in (List.mem_of_getElem? (i := 43) rfl) rfl, kb_all_in (List.mem_of_getElem? (i := 216) rfl) rfl, by decide +kernel, by decide +kernel, by decide +kernel, by decide +kernel⟩
set_option maxRecDepth 100000 in
theorem kj_App_makeRoomForWord : kb_iP ke_App_makeRoomForWord := ⟨kw_App_makeRoomForWord, kb_all_in (List.mem_of_getElem? (i := 215) rfl) rfl, kb_all_in (List.mem_of_getElem? (i := 1) rfl) rfl, by decide +kernel, _, _, rfl⟩
set_option maxRecDepth 100000 in
theorem kd_App_changeWord : kb_mP ke_App_changeWord := ⟨by decide +kernel, rfl⟩
set_option maxRecDepth 100000 in
theorem kw_App_changeWord : kb_vP ke_App_changeWord := ⟨kb_all_in (List.mem_of_getElem? (i := 43) rfl) rfl, kb_all_in (List.mem_of_getElem? (i := 329) rfl) rfl, by decide +kernel, by decide +kernel, by decide +kernel, by decide +kernel⟩
set_option maxRecDepth 100000 in
theorem kj_App_changeWord : kb_iP ke_App_changeWord := ⟨kw_App_changeWord, kb_all_in (List.mem_of_getElem? (i := 328) rfl) rfl, kb_all_in (List.mem_of_getElem? (i := 14) rfl) rfl, by decide +kernel, _, _, rfl⟩
set_option maxRecDepth 100000 in
theorem kd_App_openPartOf : kb_mP ke_App_openPartOf := ⟨by decide +kernel, rfl⟩
set_option maxRecDepth 100000 in
theorem kw_App_openPartOf : kb_vP ke_App_openPartOf := ⟨kb_all_in (List.mem_of_getElem? (i := 43) rfl) rfl, kb_all_in (List.mem_of_getElem? (i := 286) rfl) rfl, by decide +kernel, by decide +kernel, by decide +kernel, by decide +kernel⟩
set_option maxRecDepth 100000 in
theorem kj_App_openPartOf : kb_iP ke_App_openPartOf := ⟨kw_App_openPartOf, kb_all_in (List.mem_of_getElem? (i := 285) rfl) rfl, kb_all_in (List.mem_of_getElem? (i := 6) rfl) rfl, by decide +kernel, _, _, rfl⟩
set_option maxRecDepth 100000 in
theorem kd_App_slotFor : kb_mP ke_App_slotFor := ⟨by decide +kernel, rfl⟩
set_option maxRecDepth 100000 in
theorem kw_App_slotFor : kb_vP ke_App_slotFor := ⟨kb_all_in (List.mem_of_getElem? (i := 43) rfl) rfl, kb_all_in (List.mem_of_getElem? (i := 290) rfl) rfl, by decide +kernel, by decide +kernel, by decide +kernel, by decide +kernel⟩
set_option maxRecDepth 100000 in
theorem kj_App_slotFor : kb_iP ke_App_slotFor := ⟨kw_App_slotFor, kb_all_in (List.mem_of_getElem? (i := 289) rfl) rfl, kb_all_in (List.mem_of_getElem? (i := 7) rfl) rfl, by decide +kernel, _, _, rfl⟩
set_option maxRecDepth 100000 in
theorem kd_App_slotOf : kb_mP ke_App_slotOf := ⟨by decide +kernel, rfl⟩
set_option maxRecDepth 100000 in
theorem kw_App_slotOf : kb_vP ke_App_slotOf := ⟨kb_all_in (List.mem_of_getElem? (i := 43) rfl) rfl, kb_all_in (List.mem_of_getElem? (i := 294) rfl) rfl, by decide +kernel, by decide +kernel, by decide +kernel, by decide +kernel⟩
set_option maxRecDepth 100000 in
theorem kj_App_slotOf : kb_iP ke_App_slotOf := ⟨kw_App_slotOf, kb_all_in (List.mem_of_getElem? (i := 293) rfl) rfl, kb_all_in (List.mem_of_getElem? (i := 8) rfl) rfl, by decide +kernel, _, _, rfl⟩
set_option maxRecDepth 100000 in
theorem kd_App_oldestSlot : kb_mP ke_App_oldestSlot := ⟨by decide +kernel, rfl⟩
set_option maxRecDepth 100000 in
theorem kw_App_oldestSlot : kb_vP ke_App_oldestSlot := ⟨kb_all_in (List.mem_of_getElem? (i := 43) rfl) rfl, kb_all_in (List.mem_of_getElem? (i := 298) rfl) rfl, by decide +kernel, by decide +kernel, by decide +kernel, by decide +kernel⟩
set_option maxRecDepth 100000 in
theorem kj_App_oldestSlot : kb_iP ke_App_oldestSlot := ⟨kw_App_oldestSlot, kb_all_in (List.mem_of_getElem? (i := 297) rfl) rfl, kb_all_in (List.mem_of_getElem? (i := 9) rfl) rfl, by decide +kernel, _, _, rfl⟩
set_option maxRecDepth 100000 in
theorem kd_App_load : kb_mP ke_App_load := ⟨by decide +kernel, rfl⟩
set_option maxRecDepth 100000 in
theorem kw_App_load : kb_vP ke_App_load := ⟨kb_all_in (List.mem_of_getElem? (i := 43) rfl) rfl, kb_all_in (List.mem_of_getElem? (i := 325) rfl) rfl, by decide +kernel, by decide +kernel, by decide +kernel, by decide +kernel⟩
set_option maxRecDepth 100000 in
theorem kj_App_load : kb_iP ke_App_load := ⟨kw_App_load, kb_all_in (List.mem_of_getElem? (i := 324) rfl) rfl, kb_all_in (List.mem_of_getElem? (i := 13) rfl) rfl, by decide +kernel, _, _, rfl⟩
set_option maxRecDepth 100000 in
theorem kd_App_storeIfChanged : kb_mP ke_App_storeIfChanged := ⟨by decide +kernel, rfl⟩
set_option maxRecDepth 100000 in
theorem kw_App_storeIfChanged : kb_vP ke_App_storeIfChanged := ⟨kb_all_in (List.mem_of_getElem? (i := 43) rfl) rfl, kb_all_in (List.mem_of_getElem? (i := 306) rfl) rfl, by decide +kernel, by decide +kernel, by decide +kernel, by decide +kernel⟩
set_option maxRecDepth 100000 in
theorem kj_App_storeIfChanged : kb_iP ke_App_storeIfChanged := ⟨kw_App_storeIfChanged, kb_all_in (List.mem_of_getElem? (i := 305) rfl) rfl, kb_all_in (List.mem_of_getElem? (i := 10) rfl) rfl, by decide +kernel, _, _, rfl⟩
set_option maxRecDepth 100000 in
theorem kd_App_blockOf : kb_mP ke_App_blockOf := ⟨by decide +kernel, rfl⟩
set_option maxRecDepth 100000 in
theorem kw_App_blockOf : kb_vP ke_App_blockOf := ⟨kb_all_in (List.mem_of_getElem? (i := 43) rfl) rfl, kb_all_in (List.mem_of_getElem? (i := 310) rfl) rfl, by decide +kernel, by decide +kernel, by decide +kernel, by decide +kernel⟩
set_option maxRecDepth 100000 in
theorem kj_App_blockOf : kb_iP ke_App_blockOf := ⟨kw_App_blockOf, kb_all_in (List.mem_of_getElem? (i := 309) rfl) rfl, kb_all_in (List.mem_of_getElem? (i := 11) rfl) rfl, by decide +kernel, _, _, rfl⟩
set_option maxRecDepth 100000 in
theorem kd_App_dropPart : kb_mP ke_App_dropPart := ⟨by decide +kernel, rfl⟩
set_option maxRecDepth 100000 in
theorem kw_App_dropPart : kb_vP ke_App_dropPart := ⟨kb_all_in (List.mem_of_getElem? (i := 43) rfl) rfl, kb_all_in (List.mem_of_getElem? (i := 377) rfl) rfl, by decide +kernel, by decide +kernel, by decide +kernel, by decide +kernel⟩
set_option maxRecDepth 100000 in
theorem kj_App_dropPart : kb_iP ke_App_dropPart := ⟨kw_App_dropPart, kb_all_in (List.mem_of_getElem? (i := 376) rfl) rfl, kb_all_in (List.mem_of_getElem? (i := 16) rfl) rfl, by decide +kernel, _, _, rfl⟩
set_option maxRecDepth 100000 in
theorem kd_App_giveFrameBack : kb_mP ke_App_giveFrameBack := ⟨by decide +kernel, rfl⟩
set_option maxRecDepth 100000 in
theorem kw_App_giveFrameBack : kb_vP ke_App_giveFrameBack := ⟨kb_all_in (List.mem_of_getElem? (i := 43) rfl) rfl, kb_all_in (List.mem_of_getElem? (i := 381) rfl) rfl, by decide +kernel, by decide +kernel, by decide +kernel, by decide +kernel⟩
set_option maxRecDepth 100000 in
theorem kj_App_giveFrameBack : kb_iP ke_App_giveFrameBack := ⟨kw_App_giveFrameBack, kb_all_in (List.mem_of_getElem? (i := 380) rfl) rfl, kb_all_in (List.mem_of_getElem? (i := 17) rfl) rfl, by decide +kernel, _, _, rfl⟩
set_option maxRecDepth 100000 in
theorem kd_Guest_hasAllTickets : kb_mP ke_Guest_hasAllTickets := ⟨by decide +kernel, rfl⟩
set_option maxRecDepth 100000 in
theorem kw_Guest_hasAllTickets : kb_vP ke_Guest_hasAllTickets := ⟨kb_all_in (List.mem_of_getElem? (i := 42) rfl) rfl, kb_all_in (List.mem_of_getElem? (i := 414) rfl) rfl, by decide +kernel, by decide +kernel, by decide +kernel, by decide +kernel⟩
set_option maxRecDepth 100000 in
theorem kj_Guest_hasAllTickets : kb_iP ke_Guest_hasAllTickets := ⟨kw_Guest_hasAllTickets, kb_all_in (List.mem_of_getElem? (i := 412) rfl) rfl, kb_all_in (List.mem_of_getElem? (i := 413) rfl) rfl, by decide +kernel, _, _, rfl⟩
set_option maxRecDepth 100000 in
theorem kd_Guest_addTicket : kb_mP ke_Guest_addTicket := ⟨by decide +kernel, rfl⟩
set_option maxRecDepth 100000 in
theorem kw_Guest_addTicket : kb_vP ke_Guest_addTicket := ⟨kb_all_in (List.mem_of_getElem? (i := 42) rfl) rfl, kb_all_in (List.mem_of_getElem? (i := 418) rfl) rfl, by decide +kernel, by decide +kernel, by decide +kernel, by decide +kernel⟩
set_option maxRecDepth 100000 in
theorem kj_Guest_addTicket : kb_iP ke_Guest_addTicket := ⟨kw_Guest_addTicket, kb_all_in (List.mem_of_getElem? (i := 416) rfl) rfl, kb_all_in (List.mem_of_getElem? (i := 417) rfl) rfl, by decide +kernel, _, _, rfl⟩
set_option maxRecDepth 100000 in
theorem kd_Guest_stateOf : kb_mP ke_Guest_stateOf := ⟨by decide +kernel, rfl⟩
set_option maxRecDepth 100000 in
theorem kw_Guest_stateOf : kb_vP ke_Guest_stateOf := ⟨kb_all_in (List.mem_of_getElem? (i := 42) rfl) rfl, kb_all_in (List.mem_of_getElem? (i := 440) rfl) rfl, by decide +kernel, by decide +kernel, by decide +kernel, by decide +kernel⟩
set_option maxRecDepth 100000 in
theorem kj_Guest_stateOf : kb_iP ke_Guest_stateOf := ⟨kw_Guest_stateOf, kb_all_in (List.mem_of_getElem? (i := 438) rfl) rfl, kb_all_in (List.mem_of_getElem? (i := 439) rfl) rfl, by decide +kernel, _, _, rfl⟩
set_option maxRecDepth 100000 in
theorem kd_Guest_putWord : kb_mP ke_Guest_putWord := ⟨by decide +kernel, rfl⟩
set_option maxRecDepth 100000 in
theorem kw_Guest_putWord : kb_vP ke_Guest_putWord := ⟨kb_all_in (List.mem_of_getElem? (i := 42) rfl) rfl, kb_all_in (List.mem_of_getElem? (i := 428) rfl) rfl, by decide +kernel, by decide +kernel, by decide +kernel, by decide +kernel⟩
set_option maxRecDepth 100000 in
theorem kj_Guest_putWord : kb_iP ke_Guest_putWord := ⟨kw_Guest_putWord, kb_all_in (List.mem_of_getElem? (i := 426) rfl) rfl, kb_all_in (List.mem_of_getElem? (i := 427) rfl) rfl, by decide +kernel, _, _, rfl⟩
set_option maxRecDepth 100000 in
theorem kd_Guest_getWord : kb_mP ke_Guest_getWord := ⟨by decide +kernel, rfl⟩
set_option maxRecDepth 100000 in
theorem kw_Guest_getWord : kb_vP ke_Guest_getWord := ⟨kb_all_in (List.mem_of_getElem? (i := 42) rfl) rfl, kb_all_in (List.mem_of_getElem? (i := 449) rfl) rfl, by decide +kernel, by decide +kernel, by decide +kernel, by decide +kernel⟩
set_option maxRecDepth 100000 in
theorem kj_Guest_getWord : kb_iP ke_Guest_getWord := ⟨kw_Guest_getWord, kb_all_in (List.mem_of_getElem? (i := 447) rfl) rfl, kb_all_in (List.mem_of_getElem? (i := 448) rfl) rfl, by decide +kernel, _, _, rfl⟩
set_option maxRecDepth 100000 in
theorem kd_Guest_copyWords : kb_mP ke_Guest_copyWords := ⟨by decide +kernel, rfl⟩
set_option maxRecDepth 100000 in
theorem kw_Guest_copyWords : kb_vP ke_Guest_copyWords := ⟨kb_all_in (List.mem_of_getElem? (i := 42) rfl) rfl, kb_all_in (List.mem_of_getElem? (i := 458) rfl) rfl, by decide +kernel, by decide +kernel, by decide +kernel, by decide +kernel⟩
set_option maxRecDepth 100000 in
theorem kj_Guest_copyWords : kb_iP ke_Guest_copyWords := ⟨kw_Guest_copyWords, kb_all_in (List.mem_of_getElem? (i := 456) rfl) rfl, kb_all_in (List.mem_of_getElem? (i := 457) rfl) rfl, by decide +kernel, _, _, rfl⟩
set_option maxRecDepth 100000 in
theorem kd_Guest_giveBack : kb_mP ke_Guest_giveBack := ⟨by decide +kernel, rfl⟩
set_option maxRecDepth 100000 in
theorem kw_Guest_giveBack : kb_vP ke_Guest_giveBack := ⟨kb_all_in (List.mem_of_getElem? (i := 42) rfl) rfl, kb_all_in (List.mem_of_getElem? (i := 467) rfl) rfl, by decide +kernel, by decide +kernel, by decide +kernel, by decide +kernel⟩
set_option maxRecDepth 100000 in
theorem kj_Guest_giveBack : kb_iP ke_Guest_giveBack := ⟨kw_Guest_giveBack, kb_all_in (List.mem_of_getElem? (i := 465) rfl) rfl, kb_all_in (List.mem_of_getElem? (i := 466) rfl) rfl, by decide +kernel, _, _, rfl⟩
set_option maxRecDepth 100000 in
theorem kd_Guest_askFor : kb_mP ke_Guest_askFor := ⟨by decide +kernel, rfl⟩
set_option maxRecDepth 100000 in
theorem kw_Guest_askFor : kb_vP ke_Guest_askFor := ⟨kb_all_in (List.mem_of_getElem? (i := 42) rfl) rfl, kb_all_in (List.mem_of_getElem? (i := 475) rfl) rfl, by decide +kernel, by decide +kernel, by decide +kernel, by decide +kernel⟩
set_option maxRecDepth 100000 in
theorem kj_Guest_askFor : kb_iP ke_Guest_askFor := ⟨kw_Guest_askFor, kb_all_in (List.mem_of_getElem? (i := 473) rfl) rfl, kb_all_in (List.mem_of_getElem? (i := 474) rfl) rfl, by decide +kernel, _, _, rfl⟩
set_option maxRecDepth 100000 in
theorem kd_Guest_askForLastOf : kb_mP ke_Guest_askForLastOf := ⟨by decide +kernel, rfl⟩
set_option maxRecDepth 100000 in
theorem kw_Guest_askForLastOf : kb_vP ke_Guest_askForLastOf := ⟨kb_all_in (List.mem_of_getElem? (i := 42) rfl) rfl, kb_all_in (List.mem_of_getElem? (i := 263) rfl) rfl, by decide +kernel, by decide +kernel, by decide +kernel, by decide +kernel⟩
set_option maxRecDepth 100000 in
theorem kj_Guest_askForLastOf : kb_iP ke_Guest_askForLastOf := ⟨kw_Guest_askForLastOf, kb_all_in (List.mem_of_getElem? (i := 261) rfl) rfl, kb_all_in (List.mem_of_getElem? (i := 262) rfl) rfl, by decide +kernel, _, _, rfl⟩
set_option maxRecDepth 100000 in
theorem kd_Guest_earliestDeadline : kb_mP ke_Guest_earliestDeadline := ⟨by decide +kernel, rfl⟩
set_option maxRecDepth 100000 in
theorem kw_Guest_earliestDeadline : kb_vP ke_Guest_earliestDeadline := ⟨kb_all_in (List.mem_of_getElem? (i := 42) rfl) rfl, kb_all_in (List.mem_of_getElem? (i := 249) rfl) rfl, by decide +kernel, by decide +kernel, by decide +kernel, by decide +kernel⟩
set_option maxRecDepth 100000 in
theorem kj_Guest_earliestDeadline : kb_iP ke_Guest_earliestDeadline := ⟨kw_Guest_earliestDeadline, kb_all_in (List.mem_of_getElem? (i := 247) rfl) rfl, kb_all_in (List.mem_of_getElem? (i := 248) rfl) rfl, by decide +kernel, _, _, rfl⟩
set_option maxRecDepth 100000 in
theorem kd_Guest_loseAllDue : kb_mP ke_Guest_loseAllDue := ⟨by decide +kernel, rfl⟩
set_option maxRecDepth 100000 in
theorem kw_Guest_loseAllDue : kb_vP ke_Guest_loseAllDue := ⟨kb_all_in (List.mem_of_getElem? (i := 42) rfl) rfl, kb_all_in (List.mem_of_getElem? (i := 271) rfl) rfl, by decide +kernel, by decide +kernel, by decide +kernel, by decide +kernel⟩
set_option maxRecDepth 100000 in
theorem kj_Guest_loseAllDue : kb_iP ke_Guest_loseAllDue := ⟨kw_Guest_loseAllDue, kb_all_in (List.mem_of_getElem? (i := 269) rfl) rfl, kb_all_in (List.mem_of_getElem? (i := 270) rfl) rfl, by decide +kernel, _, _, rfl⟩
set_option maxRecDepth 100000 in
theorem kd_Guest_isLive : kb_mP ke_Guest_isLive := ⟨by decide +kernel, rfl⟩
set_option maxRecDepth 100000 in
theorem kw_Guest_isLive : kb_vP ke_Guest_isLive := ⟨kb_all_in (List.mem_of_getElem? (i := 42) rfl) rfl, kb_all_in (List.mem_of_getElem? (i := 436) rfl) rfl, by decide +kernel, by decide +kernel, by decide +kernel, by decide +kernel⟩
set_option maxRecDepth 100000 in
theorem kj_Guest_isLive : kb_iP ke_Guest_isLive := ⟨kw_Guest_isLive, kb_all_in (List.mem_of_getElem? (i := 435) rfl) rfl, kb_all_in (List.mem_of_getElem? (i := 19) rfl) rfl, by decide +kernel, _, _, rfl⟩
set_option maxRecDepth 100000 in
theorem kd_Guest_isLiveOf : kb_mP ke_Guest_isLiveOf := ⟨by decide +kernel, rfl⟩
set_option maxRecDepth 100000 in
theorem kw_Guest_isLiveOf : kb_vP ke_Guest_isLiveOf := ⟨kb_all_in (List.mem_of_getElem? (i := 42) rfl) rfl, kb_all_in (List.mem_of_getElem? (i := 432) rfl) rfl, by decide +kernel, by decide +kernel, by decide +kernel, by decide +kernel⟩
set_option maxRecDepth 100000 in
theorem kj_Guest_isLiveOf : kb_iP ke_Guest_isLiveOf := ⟨kw_Guest_isLiveOf, kb_all_in (List.mem_of_getElem? (i := 431) rfl) rfl, kb_all_in (List.mem_of_getElem? (i := 18) rfl) rfl, by decide +kernel, _, _, rfl⟩
set_option maxRecDepth 100000 in
theorem kd_Guest_poolOf : kb_mP ke_Guest_poolOf := ⟨by decide +kernel, rfl⟩
set_option maxRecDepth 100000 in
theorem kw_Guest_poolOf : kb_vP ke_Guest_poolOf := ⟨kb_all_in (List.mem_of_getElem? (i := 42) rfl) rfl, kb_all_in (List.mem_of_getElem? (i := 275) rfl) rfl, by decide +kernel, by decide +kernel, by decide +kernel, by decide +kernel⟩
set_option maxRecDepth 100000 in
theorem kj_Guest_poolOf : kb_iP ke_Guest_poolOf := ⟨kw_Guest_poolOf, kb_all_in (List.mem_of_getElem? (i := 274) rfl) rfl, kb_all_in (List.mem_of_getElem? (i := 5) rfl) rfl, by decide +kernel, _, _, rfl⟩
set_option maxRecDepth 100000 in
theorem kd_Kernel_poolOf : kb_mP ke_Kernel_poolOf := ⟨by decide +kernel, rfl⟩
set_option maxRecDepth 100000 in
theorem kw_Kernel_poolOf : kb_vP ke_Kernel_poolOf := ⟨kb_all_in (List.mem_of_getElem? (i := 39) rfl) rfl, kb_all_in (List.mem_of_getElem? (i := 236) rfl) rfl, by decide +kernel, by decide +kernel, by decide +kernel, by decide +kernel⟩
set_option maxRecDepth 100000 in
theorem kj_Kernel_poolOf : kb_iP ke_Kernel_poolOf := ⟨kw_Kernel_poolOf, kb_all_in (List.mem_of_getElem? (i := 234) rfl) rfl, kb_all_in (List.mem_of_getElem? (i := 235) rfl) rfl, by decide +kernel, _, _, rfl⟩
set_option maxRecDepth 100000 in
theorem kd_Kernel_guestOf : kb_mP ke_Kernel_guestOf := ⟨by decide +kernel, rfl⟩
set_option maxRecDepth 100000 in
theorem kw_Kernel_guestOf : kb_vP ke_Kernel_guestOf := ⟨kb_all_in (List.mem_of_getElem? (i := 39) rfl) rfl, kb_all_in (List.mem_of_getElem? (i := 410) rfl) rfl, by decide +kernel, by decide +kernel, by decide +kernel, by decide +kernel⟩
set_option maxRecDepth 100000 in
theorem kj_Kernel_guestOf : kb_iP ke_Kernel_guestOf := ⟨kw_Kernel_guestOf, kb_all_in (List.mem_of_getElem? (i := 408) rfl) rfl, kb_all_in (List.mem_of_getElem? (i := 409) rfl) rfl, by decide +kernel, _, _, rfl⟩
set_option maxRecDepth 100000 in
theorem kd_Kernel_bindForGuest : kb_mP ke_Kernel_bindForGuest := ⟨by decide +kernel, rfl⟩
set_option maxRecDepth 100000 in
theorem kw_Kernel_bindForGuest : kb_vP ke_Kernel_bindForGuest := ⟨kb_all_in (List.mem_of_getElem? (i := 39) rfl) rfl, kb_all_in (List.mem_of_getElem? (i := 406) rfl) rfl, by decide +kernel, by decide +kernel, by decide +kernel, by decide +kernel⟩
set_option maxRecDepth 100000 in
theorem kj_Kernel_bindForGuest : kb_iP ke_Kernel_bindForGuest := ⟨kw_Kernel_bindForGuest, kb_all_in (List.mem_of_getElem? (i := 404) rfl) rfl, kb_all_in (List.mem_of_getElem? (i := 405) rfl) rfl, by decide +kernel, _, _, rfl⟩
set_option maxRecDepth 100000 in
theorem kd_Kernel_bindForApplication : kb_mP ke_Kernel_bindForApplication := ⟨by decide +kernel, rfl⟩
set_option maxRecDepth 100000 in
theorem kw_Kernel_bindForApplication : kb_vP ke_Kernel_bindForApplication := ⟨kb_all_in (List.mem_of_getElem? (i := 39) rfl) rfl, kb_all_in (List.mem_of_getElem? (i := 228) rfl) rfl, by decide +kernel, by decide +kernel, by decide +kernel, by decide +kernel⟩
set_option maxRecDepth 100000 in
theorem kj_Kernel_bindForApplication : kb_iP ke_Kernel_bindForApplication := ⟨kw_Kernel_bindForApplication, kb_all_in (List.mem_of_getElem? (i := 226) rfl) rfl, kb_all_in (List.mem_of_getElem? (i := 227) rfl) rfl, by decide +kernel, _, _, rfl⟩
set_option maxRecDepth 100000 in
theorem kd_Kernel_moveTimeTo : kb_mP ke_Kernel_moveTimeTo := ⟨by decide +kernel, rfl⟩
set_option maxRecDepth 100000 in
theorem kw_Kernel_moveTimeTo : kb_vP ke_Kernel_moveTimeTo := ⟨kb_all_in (List.mem_of_getElem? (i := 39) rfl) rfl, kb_all_in (List.mem_of_getElem? (i := 267) rfl) rfl, by decide +kernel, by decide +kernel, by decide +kernel, by decide +kernel⟩
set_option maxRecDepth 100000 in
theorem kj_Kernel_moveTimeTo : kb_iP ke_Kernel_moveTimeTo := ⟨kw_Kernel_moveTimeTo, kb_all_in (List.mem_of_getElem? (i := 265) rfl) rfl, kb_all_in (List.mem_of_getElem? (i := 266) rfl) rfl, by decide +kernel, _, _, rfl⟩
set_option maxRecDepth 100000 in
theorem kd_Kernel_claim : kb_mP ke_Kernel_claim := ⟨by decide +kernel, rfl⟩
set_option maxRecDepth 100000 in
theorem kw_Kernel_claim : kb_vP ke_Kernel_claim := ⟨kb_all_in (List.mem_of_getElem? (i := 39) rfl) rfl, kb_all_in (List.mem_of_getElem? (i := 232) rfl) rfl, by decide +kernel, by decide +kernel, by decide +kernel, by decide +kernel⟩
set_option maxRecDepth 100000 in
theorem kj_Kernel_claim : kb_iP ke_Kernel_claim := ⟨kw_Kernel_claim, kb_all_in (List.mem_of_getElem? (i := 231) rfl) rfl, kb_all_in (List.mem_of_getElem? (i := 2) rfl) rfl, by decide +kernel, _, _, rfl⟩
set_option maxRecDepth 100000 in
theorem kd_Kernel_askRicherGuest : kb_mP ke_Kernel_askRicherGuest := ⟨by decide +kernel, rfl⟩
set_option maxRecDepth 100000 in
theorem kw_Kernel_askRicherGuest : kb_vP ke_Kernel_askRicherGuest := ⟨kb_all_in (List.mem_of_getElem? (i := 39) rfl) rfl, kb_all_in (List.mem_of_getElem? (i := 258) rfl) rfl, by decide +kernel, by decide +kernel, by decide +kernel, by decide +kernel⟩
set_option maxRecDepth 100000 in
theorem kj_Kernel_askRicherGuest : kb_iP ke_Kernel_askRicherGuest := ⟨kw_Kernel_askRicherGuest, kb_all_in (List.mem_of_getElem? (i := 257) rfl) rfl, kb_all_in (List.mem_of_getElem? (i := 4) rfl) rfl, by decide +kernel, _, _, rfl⟩
set_option maxRecDepth 100000 in
theorem kd_Kernel_earliestDeadline : kb_mP ke_Kernel_earliestDeadline := ⟨by decide +kernel, rfl⟩
set_option maxRecDepth 100000 in
theorem kw_Kernel_earliestDeadline : kb_vP ke_Kernel_earliestDeadline := ⟨kb_all_in (List.mem_of_getElem? (i := 39) rfl) rfl, kb_all_in (List.mem_of_getElem? (i := 245) rfl) rfl, by decide +kernel, by decide +kernel, by decide +kernel, by decide +kernel⟩
set_option maxRecDepth 100000 in
theorem kj_Kernel_earliestDeadline : kb_iP ke_Kernel_earliestDeadline := ⟨kw_Kernel_earliestDeadline, kb_all_in (List.mem_of_getElem? (i := 244) rfl) rfl, kb_all_in (List.mem_of_getElem? (i := 3) rfl) rfl, by decide +kernel, _, _, rfl⟩
set_option maxRecDepth 100000 in
theorem kd_Pool_bindFreeOne : kb_mP ke_Pool_bindFreeOne := ⟨by decide +kernel, rfl⟩
set_option maxRecDepth 100000 in
theorem kw_Pool_bindFreeOne : kb_vP ke_Pool_bindFreeOne := ⟨kb_all_in (List.mem_of_getElem? (i := 40) rfl) rfl, kb_all_in (List.mem_of_getElem? (i := 240) rfl) rfl, by decide +kernel, by decide +kernel, by decide +kernel, by decide +kernel⟩
set_option maxRecDepth 100000 in
theorem kj_Pool_bindFreeOne : kb_iP ke_Pool_bindFreeOne := ⟨kw_Pool_bindFreeOne, kb_all_in (List.mem_of_getElem? (i := 238) rfl) rfl, kb_all_in (List.mem_of_getElem? (i := 239) rfl) rfl, by decide +kernel, _, _, rfl⟩
set_option maxRecDepth 100000 in
theorem kd_Pool_endBinding : kb_mP ke_Pool_endBinding := ⟨by decide +kernel, rfl⟩
set_option maxRecDepth 100000 in
theorem kw_Pool_endBinding : kb_vP ke_Pool_endBinding := ⟨kb_all_in (List.mem_of_getElem? (i := 40) rfl) rfl, kb_all_in (List.mem_of_getElem? (i := 279) rfl) rfl, by decide +kernel, by decide +kernel, by decide +kernel, by decide +kernel⟩
set_option maxRecDepth 100000 in
theorem kj_Pool_endBinding : kb_iP ke_Pool_endBinding := ⟨kw_Pool_endBinding, kb_all_in (List.mem_of_getElem? (i := 277) rfl) rfl, kb_all_in (List.mem_of_getElem? (i := 278) rfl) rfl, by decide +kernel, _, _, rfl⟩
set_option maxRecDepth 100000 in
theorem kd_Pool_countFree : kb_mP ke_Pool_countFree := ⟨by decide +kernel, rfl⟩
set_option maxRecDepth 100000 in
theorem kw_Pool_countFree : kb_vP ke_Pool_countFree := ⟨kb_all_in (List.mem_of_getElem? (i := 40) rfl) rfl, kb_all_in (List.mem_of_getElem? (i := 498) rfl) rfl, by decide +kernel, by decide +kernel, by decide +kernel, by decide +kernel⟩
set_option maxRecDepth 100000 in
theorem kj_Pool_countFree : kb_iP ke_Pool_countFree := ⟨kw_Pool_countFree, kb_all_in (List.mem_of_getElem? (i := 496) rfl) rfl, kb_all_in (List.mem_of_getElem? (i := 497) rfl) rfl, by decide +kernel, _, _, rfl⟩
set_option maxRecDepth 100000 in
theorem kd_Pool_countHeldBy : kb_mP ke_Pool_countHeldBy := ⟨by decide +kernel, rfl⟩
set_option maxRecDepth 100000 in
theorem kw_Pool_countHeldBy : kb_vP ke_Pool_countHeldBy := ⟨kb_all_in (List.mem_of_getElem? (i := 40) rfl) rfl, kb_all_in (List.mem_of_getElem? (i := 224) rfl) rfl, by decide +kernel, by decide +kernel, by decide +kernel, by decide +kernel⟩
set_option maxRecDepth 100000 in
theorem kj_Pool_countHeldBy : kb_iP ke_Pool_countHeldBy := ⟨kw_Pool_countHeldBy, kb_all_in (List.mem_of_getElem? (i := 222) rfl) rfl, kb_all_in (List.mem_of_getElem? (i := 223) rfl) rfl, by decide +kernel, _, _, rfl⟩
set_option maxRecDepth 100000 in
theorem kd_Pool_hasFullShare : kb_mP ke_Pool_hasFullShare := ⟨by decide +kernel, rfl⟩
set_option maxRecDepth 100000 in
theorem kw_Pool_hasFullShare : kb_vP ke_Pool_hasFullShare := ⟨kb_all_in (List.mem_of_getElem? (i := 40) rfl) rfl, kb_all_in (List.mem_of_getElem? (i := 220) rfl) rfl, by decide +kernel, by decide +kernel, by decide +kernel, by decide +kernel⟩
set_option maxRecDepth 100000 in
theorem kj_Pool_hasFullShare : kb_iP ke_Pool_hasFullShare := ⟨kw_Pool_hasFullShare, kb_all_in (List.mem_of_getElem? (i := 218) rfl) rfl, kb_all_in (List.mem_of_getElem? (i := 219) rfl) rfl, by decide +kernel, _, _, rfl⟩
set_option maxRecDepth 100000 in
theorem kd_Pool_wordAt : kb_mP ke_Pool_wordAt := ⟨by decide +kernel, rfl⟩
set_option maxRecDepth 100000 in
theorem kw_Pool_wordAt : kb_vP ke_Pool_wordAt := ⟨kb_all_in (List.mem_of_getElem? (i := 40) rfl) rfl, kb_all_in (List.mem_of_getElem? (i := 357) rfl) rfl, by decide +kernel, by decide +kernel, by decide +kernel, by decide +kernel⟩
set_option maxRecDepth 100000 in
theorem kj_Pool_wordAt : kb_iP ke_Pool_wordAt := ⟨kw_Pool_wordAt, kb_all_in (List.mem_of_getElem? (i := 355) rfl) rfl, kb_all_in (List.mem_of_getElem? (i := 356) rfl) rfl, by decide +kernel, _, _, rfl⟩
set_option maxRecDepth 100000 in
theorem kd_Pool_setWord : kb_mP ke_Pool_setWord := ⟨by decide +kernel, rfl⟩
set_option maxRecDepth 100000 in
theorem kw_Pool_setWord : kb_vP ke_Pool_setWord := ⟨kb_all_in (List.mem_of_getElem? (i := 40) rfl) rfl, kb_all_in (List.mem_of_getElem? (i := 333) rfl) rfl, by decide +kernel, by decide +kernel, by decide +kernel, by decide +kernel⟩
set_option maxRecDepth 100000 in
theorem kj_Pool_setWord : kb_iP ke_Pool_setWord := ⟨kw_Pool_setWord, kb_all_in (List.mem_of_getElem? (i := 331) rfl) rfl, kb_all_in (List.mem_of_getElem? (i := 332) rfl) rfl, by decide +kernel, _, _, rfl⟩
set_option maxRecDepth 100000 in
theorem kd_Pool_takeWordsFrom : kb_mP ke_Pool_takeWordsFrom := ⟨by decide +kernel, rfl⟩
set_option maxRecDepth 100000 in
theorem kw_Pool_takeWordsFrom : kb_vP ke_Pool_takeWordsFrom := ⟨kb_all_in (List.mem_of_getElem? (i := 40) rfl) rfl, kb_all_in (List.mem_of_getElem? (i := 314) rfl) rfl, by decide +kernel, by decide +kernel, by decide +kernel, by decide +kernel⟩
set_option maxRecDepth 100000 in
theorem kj_Pool_takeWordsFrom : kb_iP ke_Pool_takeWordsFrom := ⟨kw_Pool_takeWordsFrom, kb_all_in (List.mem_of_getElem? (i := 312) rfl) rfl, kb_all_in (List.mem_of_getElem? (i := 313) rfl) rfl, by decide +kernel, _, _, rfl⟩
set_option maxRecDepth 100000 in
theorem kd_Pool_hasResource : kb_mP ke_Pool_hasResource := ⟨by decide +kernel, rfl⟩
set_option maxRecDepth 100000 in
theorem kw_Pool_hasResource : kb_vP ke_Pool_hasResource := ⟨kb_all_in (List.mem_of_getElem? (i := 40) rfl) rfl, kb_all_in (List.mem_of_getElem? (i := 318) rfl) rfl, by decide +kernel, by decide +kernel, by decide +kernel, by decide +kernel⟩
set_option maxRecDepth 100000 in
theorem kj_Pool_hasResource : kb_iP ke_Pool_hasResource := ⟨kw_Pool_hasResource, kb_all_in (List.mem_of_getElem? (i := 317) rfl) rfl, kb_all_in (List.mem_of_getElem? (i := 12) rfl) rfl, by decide +kernel, _, _, rfl⟩
set_option maxRecDepth 100000 in
theorem kd_Pool_hasWord : kb_mP ke_Pool_hasWord := ⟨by decide +kernel, rfl⟩
set_option maxRecDepth 100000 in
theorem kw_Pool_hasWord : kb_vP ke_Pool_hasWord := ⟨kb_all_in (List.mem_of_getElem? (i := 40) rfl) rfl, kb_all_in (List.mem_of_getElem? (i := 337) rfl) rfl, by decide +kernel, by decide +kernel, by decide +kernel, by decide +kernel⟩
set_option maxRecDepth 100000 in
theorem kj_Pool_hasWord : kb_iP ke_Pool_hasWord := ⟨kw_Pool_hasWord, kb_all_in (List.mem_of_getElem? (i := 336) rfl) rfl, kb_all_in (List.mem_of_getElem? (i := 15) rfl) rfl, by decide +kernel, _, _, rfl⟩
set_option maxRecDepth 100000 in
theorem kd_Slot_isEmpty : kb_mP ke_Slot_isEmpty := ⟨by decide +kernel, rfl⟩
set_option maxRecDepth 100000 in
theorem kw_Slot_isEmpty : kb_vP ke_Slot_isEmpty := ⟨kb_all_in (List.mem_of_getElem? (i := 44) rfl) rfl, kb_all_in (List.mem_of_getElem? (i := 302) rfl) rfl, by decide +kernel, by decide +kernel, by decide +kernel, by decide +kernel⟩
set_option maxRecDepth 100000 in
theorem kj_Slot_isEmpty : kb_iP ke_Slot_isEmpty := ⟨kw_Slot_isEmpty, kb_all_in (List.mem_of_getElem? (i := 300) rfl) rfl, kb_all_in (List.mem_of_getElem? (i := 301) rfl) rfl, by decide +kernel, _, _, rfl⟩
set_option maxRecDepth 100000 in
theorem kb_mall : ∀ e ∈ kb_mt, kb_mP e := List.forall_mem_cons.mpr ⟨kd_BK_append, List.forall_mem_cons.mpr ⟨kd_BK_write, List.forall_mem_cons.mpr ⟨kd_BK_read, List.forall_mem_cons.mpr ⟨kd_BK_length, List.forall_mem_cons.mpr ⟨kd_BK_erase, List.forall_mem_cons.mpr ⟨kd_BK_sync, List.forall_mem_cons.mpr ⟨kd_BK_squeeze, List.forall_mem_cons.mpr ⟨kd_BK_bind, List.forall_mem_cons.mpr ⟨kd_BK_put, List.forall_mem_cons.mpr ⟨kd_BK_get, List.forall_mem_cons.mpr ⟨kd_BK_copy, List.forall_mem_cons.mpr ⟨kd_BK_release, List.forall_mem_cons.mpr ⟨kd_BK_ask, List.forall_mem_cons.mpr ⟨kd_BK_state, List.forall_mem_cons.mpr ⟨kd_BK_pass, List.forall_mem_cons.mpr ⟨kd_BK_time, List.forall_mem_cons.mpr ⟨kd_BK_free, List.forall_mem_cons.mpr ⟨kd_BK_held, List.forall_mem_cons.mpr ⟨kd_BK_losses, List.forall_mem_cons.mpr ⟨kd_BK_transfers, List.forall_mem_cons.mpr ⟨kd_BK_applicationOf, List.forall_mem_cons.mpr ⟨kd_BK_isEnvironment, List.forall_mem_cons.mpr ⟨kd_Model_within, List.forall_mem_cons.mpr ⟨kd_Model_blocksOf, List.forall_mem_cons.mpr ⟨kd_Model_liveOf, List.forall_mem_cons.mpr ⟨kd_Model_count, List.forall_mem_cons.mpr ⟨kd_Model_free, List.forall_mem_cons.mpr ⟨kd_Model_held, List.forall_mem_cons.mpr ⟨kd_Model_moveTo, List.forall_mem_cons.mpr ⟨kd_Model_earliest, List.forall_mem_cons.mpr ⟨kd_Model_mark, List.forall_mem_cons.mpr ⟨kd_Model_wish, List.forall_mem_cons.mpr ⟨kd_Model_claim, List.forall_mem_cons.mpr ⟨kd_Model_noFile, List.forall_mem_cons.mpr ⟨kd_Model_noWord, List.forall_mem_cons.mpr ⟨kd_Model_find, List.forall_mem_cons.mpr ⟨kd_Model_remove, List.forall_mem_cons.mpr ⟨kd_Model_add, List.forall_mem_cons.mpr ⟨kd_Model_storeAt, List.forall_mem_cons.mpr ⟨kd_Model_open, List.forall_mem_cons.mpr ⟨kd_Model_change, List.forall_mem_cons.mpr ⟨kd_Model_append, List.forall_mem_cons.mpr ⟨kd_Model_write, List.forall_mem_cons.mpr ⟨kd_Model_read, List.forall_mem_cons.mpr ⟨kd_Model_length, List.forall_mem_cons.mpr ⟨kd_Model_erase, List.forall_mem_cons.mpr ⟨kd_Model_sync, List.forall_mem_cons.mpr ⟨kd_Model_squeeze, List.forall_mem_cons.mpr ⟨kd_Model_bind, List.forall_mem_cons.mpr ⟨kd_Model_live, List.forall_mem_cons.mpr ⟨kd_Model_put, List.forall_mem_cons.mpr ⟨kd_Model_get, List.forall_mem_cons.mpr ⟨kd_Model_copy, List.forall_mem_cons.mpr ⟨kd_Model_release, List.forall_mem_cons.mpr ⟨kd_Model_ask, List.forall_mem_cons.mpr ⟨kd_Model_state, List.forall_mem_cons.mpr ⟨kd_Model_pass, List.forall_mem_cons.mpr ⟨kd_Model_time, List.forall_mem_cons.mpr ⟨kd_Model_losses, List.forall_mem_cons.mpr ⟨kd_Model_transfers, List.forall_mem_cons.mpr ⟨kd_App_appendWord, List.forall_mem_cons.mpr ⟨kd_App_writeWord, List.forall_mem_cons.mpr ⟨kd_App_readWord, List.forall_mem_cons.mpr ⟨kd_App_lengthOf, List.forall_mem_cons.mpr ⟨kd_App_eraseFile, List.forall_mem_cons.mpr ⟨kd_App_storeAllChanged, List.forall_mem_cons.mpr ⟨kd_App_giveUpOldestFrame, List.forall_mem_cons.mpr ⟨kd_App_isFile, List.forall_mem_cons.mpr ⟨kd_App_makeRoomForWord, List.forall_mem_cons.mpr ⟨kd_App_changeWord, List.forall_mem_cons.mpr ⟨kd_App_openPartOf, List.forall_mem_cons.mpr ⟨kd_App_slotFor, List.forall_mem_cons.mpr ⟨kd_App_slotOf, List.forall_mem_cons.mpr ⟨kd_App_oldestSlot, List.forall_mem_cons.mpr ⟨kd_App_load, List.forall_mem_cons.mpr ⟨kd_App_storeIfChanged, List.forall_mem_cons.mpr ⟨kd_App_blockOf, List.forall_mem_cons.mpr ⟨kd_App_dropPart, List.forall_mem_cons.mpr ⟨kd_App_giveFrameBack, List.forall_mem_cons.mpr ⟨kd_Guest_hasAllTickets, List.forall_mem_cons.mpr ⟨kd_Guest_addTicket, List.forall_mem_cons.mpr ⟨kd_Guest_stateOf, List.forall_mem_cons.mpr ⟨kd_Guest_putWord, List.forall_mem_cons.mpr ⟨kd_Guest_getWord, List.forall_mem_cons.mpr ⟨kd_Guest_copyWords, List.forall_mem_cons.mpr ⟨kd_Guest_giveBack, List.forall_mem_cons.mpr ⟨kd_Guest_askFor, List.forall_mem_cons.mpr ⟨kd_Guest_askForLastOf, List.forall_mem_cons.mpr ⟨kd_Guest_earliestDeadline, List.forall_mem_cons.mpr ⟨kd_Guest_loseAllDue, List.forall_mem_cons.mpr ⟨kd_Guest_isLive, List.forall_mem_cons.mpr ⟨kd_Guest_isLiveOf, List.forall_mem_cons.mpr ⟨kd_Guest_poolOf, List.forall_mem_cons.mpr ⟨kd_Kernel_poolOf, List.forall_mem_cons.mpr ⟨kd_Kernel_guestOf, List.forall_mem_cons.mpr ⟨kd_Kernel_bindForGuest, List.forall_mem_cons.mpr ⟨kd_Kernel_bindForApplication, List.forall_mem_cons.mpr ⟨kd_Kernel_moveTimeTo, List.forall_mem_cons.mpr ⟨kd_Kernel_claim, List.forall_mem_cons.mpr ⟨kd_Kernel_askRicherGuest, List.forall_mem_cons.mpr ⟨kd_Kernel_earliestDeadline, List.forall_mem_cons.mpr ⟨kd_Pool_bindFreeOne, List.forall_mem_cons.mpr ⟨kd_Pool_endBinding, List.forall_mem_cons.mpr ⟨kd_Pool_countFree, List.forall_mem_cons.mpr ⟨kd_Pool_countHeldBy, List.forall_mem_cons.mpr ⟨kd_Pool_hasFullShare, List.forall_mem_cons.mpr ⟨kd_Pool_wordAt, List.forall_mem_cons.mpr ⟨kd_Pool_setWord, List.forall_mem_cons.mpr ⟨kd_Pool_takeWordsFrom, List.forall_mem_cons.mpr ⟨kd_Pool_hasResource, List.forall_mem_cons.mpr ⟨kd_Pool_hasWord, List.forall_mem_cons.mpr ⟨kd_Slot_isEmpty, fun _ h => absurd h List.not_mem_nil⟩⟩⟩⟩⟩⟩⟩⟩⟩⟩⟩⟩⟩⟩⟩⟩⟩⟩⟩⟩⟩⟩⟩⟩⟩⟩⟩⟩⟩⟩⟩⟩⟩⟩⟩⟩⟩⟩⟩⟩⟩⟩⟩⟩⟩⟩⟩⟩⟩⟩⟩⟩⟩⟩⟩⟩⟩⟩⟩⟩⟩⟩⟩⟩⟩⟩⟩⟩⟩⟩⟩⟩⟩⟩⟩⟩⟩⟩⟩⟩⟩⟩⟩⟩⟩⟩⟩⟩⟩⟩⟩⟩⟩⟩⟩⟩⟩⟩⟩⟩⟩⟩⟩⟩⟩⟩⟩⟩⟩⟩⟩⟩
theorem kb_mP_at (y : Nat) : kb_mP (kb_me y) := by
  unfold kb_me
  cases h : kb_mt[y]? with
  | none => exact ⟨rfl, rfl⟩
  | some e => exact kb_mall e (List.mem_of_getElem? h)
theorem kb_dec {y pc : Nat} {i : Jvm.ClassFile.Instr} (h : kb_ft y pc = some i) : decode (kb_by y) pc = .ok (i, kb_len i) := by
  have h1 := List.all_eq_true.mp (kb_mP_at y).1 _ (kb_lk_mem h)
  exact of_decide_eq_true h1
theorem kb_cls (y : Nat) : (kb_nm y).cls = kb_cn (kb_o y) := (kb_mP_at y).2
def kb_flL : List (Nat × List (Nat × Nat × Nat × Nat)) := [(0, [(12, 0, 0, 0), (18, 0, 1, 0), (79, 1, 0, 1), (107, 3, 0, 1), (110, 4, 1, 1), (113, 4, 0, 1)]), (1, [(14, 1, 1, 0), (20, 1, 2, 0), (28, 1, 3, 0), (32, 1, 4, 0), (72, 1, 0, 1)]), (2, [(9, 2, 0, 0), (15, 2, 1, 0), (19, 2, 2, 0)]), (3, [(9, 3, 3, 0), (15, 3, 4, 0), (19, 3, 5, 0), (22, 3, 6, 0), (25, 3, 1, 0), (29, 3, 2, 0), (32, 3, 7, 1), (75, 3, 0, 1)]), (4, [(9, 4, 4, 0), (15, 4, 5, 0), (20, 4, 6, 0), (24, 4, 2, 0), (28, 4, 3, 0), (54, 1, 1, 0), (60, 5, 0, 1), (73, 4, 1, 1), (87, 1, 2, 0), (97, 5, 3, 2), (113, 5, 1, 1), (120, 4, 7, 1), (123, 5, 2, 1), (137, 4, 0, 1)]), (5, [(9, 5, 0, 1)]), (6, [(7, 6, 3, 0), (13, 6, 4, 0), (16, 6, 5, 0), (19, 6, 6, 0), (23, 6, 7, 0), (26, 6, 8, 0), (29, 6, 9, 0), (32, 6, 10, 0), (35, 6, 11, 0), (38, 6, 12, 0), (41, 6, 13, 0), (59, 6, 0, 1), (85, 6, 1, 1), (106, 6, 2, 1)])]
def kb_fl (y x : Nat) : Option (Nat × Nat × Nat) := match kb_lk kb_flL (kb_o y) with
  | some l => kb_lk l x
  | none => none
def kb_flP (o : Nat) (q : Nat × Nat × Nat × Nat) : Prop := ∃ N T n, kb_cl[q.2.1]? = some (N, T, n) ∧ q.2.2.1 < n ∧ (∀ w ∈ u_ws N T n, w ∈ kb_all) ∧ Cond.fieldLink (kb_cn o) q.1 (T q.2.2.1).1 (T q.2.2.1).2.1 (T q.2.2.1).2.2.1 ∈ kb_all ∧ (q.2.2.2 = 1 → (T q.2.2.1).2.2.2 = false ∧ parseFieldDescriptor (T q.2.2.1).2.2.1 = some .int) ∧ (q.2.2.2 = 2 → (T q.2.2.1).2.2.2 = false ∧ parseFieldDescriptor (T q.2.2.1).2.2.1 = some .boolean)
set_option maxRecDepth 100000 in
theorem kf_0_12 : kb_flP 0 (12, 0, 0, 0) := ⟨R_BK, F_BK, 2, rfl, by decide, u_BK, kb_all_in (List.mem_of_getElem? (i := 191) rfl) rfl, fun h => absurd h (by decide), fun h => absurd h (by decide)⟩
set_option maxRecDepth 100000 in
theorem kf_0_18 : kb_flP 0 (18, 0, 1, 0) := ⟨R_BK, F_BK, 2, rfl, by decide, u_BK, kb_all_in (List.mem_of_getElem? (i := 192) rfl) rfl, fun h => absurd h (by decide), fun h => absurd h (by decide)⟩
set_option maxRecDepth 100000 in
theorem kf_0_79 : kb_flP 0 (79, 1, 0, 1) := ⟨R_Kernel, F_Kernel, 5, rfl, by decide, u_Kernel, kb_all_in (List.mem_of_getElem? (i := 116) rfl) rfl, fun _ => ⟨rfl, by decide +kernel⟩, fun h => absurd h (by decide)⟩
set_option maxRecDepth 100000 in
theorem kf_0_107 : kb_flP 0 (107, 3, 0, 1) := ⟨R_Guest, F_Guest, 8, rfl, by decide, u_Guest, kb_all_in (List.mem_of_getElem? (i := 89) rfl) rfl, fun _ => ⟨rfl, by decide +kernel⟩, fun h => absurd h (by decide)⟩
set_option maxRecDepth 100000 in
theorem kf_0_110 : kb_flP 0 (110, 4, 1, 1) := ⟨R_App, F_App, 8, rfl, by decide, u_App, kb_all_in (List.mem_of_getElem? (i := 167) rfl) rfl, fun _ => ⟨rfl, by decide +kernel⟩, fun h => absurd h (by decide)⟩
set_option maxRecDepth 100000 in
theorem kf_0_113 : kb_flP 0 (113, 4, 0, 1) := ⟨R_App, F_App, 8, rfl, by decide, u_App, kb_all_in (List.mem_of_getElem? (i := 165) rfl) rfl, fun _ => ⟨rfl, by decide +kernel⟩, fun h => absurd h (by decide)⟩
set_option maxRecDepth 100000 in
theorem kf_1_14 : kb_flP 1 (14, 1, 1, 0) := ⟨R_Kernel, F_Kernel, 5, rfl, by decide, u_Kernel, kb_all_in (List.mem_of_getElem? (i := 117) rfl) rfl, fun h => absurd h (by decide), fun h => absurd h (by decide)⟩
set_option maxRecDepth 100000 in
theorem kf_1_20 : kb_flP 1 (20, 1, 2, 0) := ⟨R_Kernel, F_Kernel, 5, rfl, by decide, u_Kernel, kb_all_in (List.mem_of_getElem? (i := 119) rfl) rfl, fun h => absurd h (by decide), fun h => absurd h (by decide)⟩
set_option maxRecDepth 100000 in
theorem kf_1_28 : kb_flP 1 (28, 1, 3, 0) := ⟨R_Kernel, F_Kernel, 5, rfl, by decide, u_Kernel, kb_all_in (List.mem_of_getElem? (i := 121) rfl) rfl, fun h => absurd h (by decide), fun h => absurd h (by decide)⟩
set_option maxRecDepth 100000 in
theorem kf_1_32 : kb_flP 1 (32, 1, 4, 0) := ⟨R_Kernel, F_Kernel, 5, rfl, by decide, u_Kernel, kb_all_in (List.mem_of_getElem? (i := 122) rfl) rfl, fun h => absurd h (by decide), fun h => absurd h (by decide)⟩
set_option maxRecDepth 100000 in
theorem kf_1_72 : kb_flP 1 (72, 1, 0, 1) := ⟨R_Kernel, F_Kernel, 5, rfl, by decide, u_Kernel, kb_all_in (List.mem_of_getElem? (i := 115) rfl) rfl, fun _ => ⟨rfl, by decide +kernel⟩, fun h => absurd h (by decide)⟩
set_option maxRecDepth 100000 in
theorem kf_2_9 : kb_flP 2 (9, 2, 0, 0) := ⟨R_Pool, F_Pool, 3, rfl, by decide, u_Pool, kb_all_in (List.mem_of_getElem? (i := 71) rfl) rfl, fun h => absurd h (by decide), fun h => absurd h (by decide)⟩
set_option maxRecDepth 100000 in
theorem kf_2_15 : kb_flP 2 (15, 2, 1, 0) := ⟨R_Pool, F_Pool, 3, rfl, by decide, u_Pool, kb_all_in (List.mem_of_getElem? (i := 72) rfl) rfl, fun h => absurd h (by decide), fun h => absurd h (by decide)⟩
set_option maxRecDepth 100000 in
theorem kf_2_19 : kb_flP 2 (19, 2, 2, 0) := ⟨R_Pool, F_Pool, 3, rfl, by decide, u_Pool, kb_all_in (List.mem_of_getElem? (i := 73) rfl) rfl, fun h => absurd h (by decide), fun h => absurd h (by decide)⟩
set_option maxRecDepth 100000 in
theorem kf_3_9 : kb_flP 3 (9, 3, 3, 0) := ⟨R_Guest, F_Guest, 8, rfl, by decide, u_Guest, kb_all_in (List.mem_of_getElem? (i := 92) rfl) rfl, fun h => absurd h (by decide), fun h => absurd h (by decide)⟩
set_option maxRecDepth 100000 in
theorem kf_3_15 : kb_flP 3 (15, 3, 4, 0) := ⟨R_Guest, F_Guest, 8, rfl, by decide, u_Guest, kb_all_in (List.mem_of_getElem? (i := 93) rfl) rfl, fun h => absurd h (by decide), fun h => absurd h (by decide)⟩
set_option maxRecDepth 100000 in
theorem kf_3_19 : kb_flP 3 (19, 3, 5, 0) := ⟨R_Guest, F_Guest, 8, rfl, by decide, u_Guest, kb_all_in (List.mem_of_getElem? (i := 94) rfl) rfl, fun h => absurd h (by decide), fun h => absurd h (by decide)⟩
set_option maxRecDepth 100000 in
theorem kf_3_22 : kb_flP 3 (22, 3, 6, 0) := ⟨R_Guest, F_Guest, 8, rfl, by decide, u_Guest, kb_all_in (List.mem_of_getElem? (i := 95) rfl) rfl, fun h => absurd h (by decide), fun h => absurd h (by decide)⟩
set_option maxRecDepth 100000 in
theorem kf_3_25 : kb_flP 3 (25, 3, 1, 0) := ⟨R_Guest, F_Guest, 8, rfl, by decide, u_Guest, kb_all_in (List.mem_of_getElem? (i := 90) rfl) rfl, fun h => absurd h (by decide), fun h => absurd h (by decide)⟩
set_option maxRecDepth 100000 in
theorem kf_3_29 : kb_flP 3 (29, 3, 2, 0) := ⟨R_Guest, F_Guest, 8, rfl, by decide, u_Guest, kb_all_in (List.mem_of_getElem? (i := 91) rfl) rfl, fun h => absurd h (by decide), fun h => absurd h (by decide)⟩
set_option maxRecDepth 100000 in
theorem kf_3_32 : kb_flP 3 (32, 3, 7, 1) := ⟨R_Guest, F_Guest, 8, rfl, by decide, u_Guest, kb_all_in (List.mem_of_getElem? (i := 96) rfl) rfl, fun _ => ⟨rfl, by decide +kernel⟩, fun h => absurd h (by decide)⟩
set_option maxRecDepth 100000 in
theorem kf_3_75 : kb_flP 3 (75, 3, 0, 1) := ⟨R_Guest, F_Guest, 8, rfl, by decide, u_Guest, kb_all_in (List.mem_of_getElem? (i := 88) rfl) rfl, fun _ => ⟨rfl, by decide +kernel⟩, fun h => absurd h (by decide)⟩
set_option maxRecDepth 100000 in
theorem kf_4_9 : kb_flP 4 (9, 4, 4, 0) := ⟨R_App, F_App, 8, rfl, by decide, u_App, kb_all_in (List.mem_of_getElem? (i := 170) rfl) rfl, fun h => absurd h (by decide), fun h => absurd h (by decide)⟩
set_option maxRecDepth 100000 in
theorem kf_4_15 : kb_flP 4 (15, 4, 5, 0) := ⟨R_App, F_App, 8, rfl, by decide, u_App, kb_all_in (List.mem_of_getElem? (i := 171) rfl) rfl, fun h => absurd h (by decide), fun h => absurd h (by decide)⟩
set_option maxRecDepth 100000 in
theorem kf_4_20 : kb_flP 4 (20, 4, 6, 0) := ⟨R_App, F_App, 8, rfl, by decide, u_App, kb_all_in (List.mem_of_getElem? (i := 172) rfl) rfl, fun h => absurd h (by decide), fun h => absurd h (by decide)⟩
set_option maxRecDepth 100000 in
theorem kf_4_24 : kb_flP 4 (24, 4, 2, 0) := ⟨R_App, F_App, 8, rfl, by decide, u_App, kb_all_in (List.mem_of_getElem? (i := 168) rfl) rfl, fun h => absurd h (by decide), fun h => absurd h (by decide)⟩
set_option maxRecDepth 100000 in
theorem kf_4_28 : kb_flP 4 (28, 4, 3, 0) := ⟨R_App, F_App, 8, rfl, by decide, u_App, kb_all_in (List.mem_of_getElem? (i := 169) rfl) rfl, fun h => absurd h (by decide), fun h => absurd h (by decide)⟩
set_option maxRecDepth 100000 in
theorem kf_4_54 : kb_flP 4 (54, 1, 1, 0) := ⟨R_Kernel, F_Kernel, 5, rfl, by decide, u_Kernel, kb_all_in (List.mem_of_getElem? (i := 118) rfl) rfl, fun h => absurd h (by decide), fun h => absurd h (by decide)⟩
set_option maxRecDepth 100000 in
theorem kf_4_60 : kb_flP 4 (60, 5, 0, 1) := ⟨R_Slot, F_Slot, 4, rfl, by decide, u_Slot, kb_all_in (List.mem_of_getElem? (i := 150) rfl) rfl, fun _ => ⟨rfl, by decide +kernel⟩, fun h => absurd h (by decide)⟩
set_option maxRecDepth 100000 in
theorem kf_4_73 : kb_flP 4 (73, 4, 1, 1) := ⟨R_App, F_App, 8, rfl, by decide, u_App, kb_all_in (List.mem_of_getElem? (i := 166) rfl) rfl, fun _ => ⟨rfl, by decide +kernel⟩, fun h => absurd h (by decide)⟩
set_option maxRecDepth 100000 in
theorem kf_4_87 : kb_flP 4 (87, 1, 2, 0) := ⟨R_Kernel, F_Kernel, 5, rfl, by decide, u_Kernel, kb_all_in (List.mem_of_getElem? (i := 120) rfl) rfl, fun h => absurd h (by decide), fun h => absurd h (by decide)⟩
set_option maxRecDepth 100000 in
theorem kf_4_97 : kb_flP 4 (97, 5, 3, 2) := ⟨R_Slot, F_Slot, 4, rfl, by decide, u_Slot, kb_all_in (List.mem_of_getElem? (i := 154) rfl) rfl, fun h => absurd h (by decide), fun _ => ⟨rfl, by decide +kernel⟩⟩
set_option maxRecDepth 100000 in
theorem kf_4_113 : kb_flP 4 (113, 5, 1, 1) := ⟨R_Slot, F_Slot, 4, rfl, by decide, u_Slot, kb_all_in (List.mem_of_getElem? (i := 152) rfl) rfl, fun _ => ⟨rfl, by decide +kernel⟩, fun h => absurd h (by decide)⟩
set_option maxRecDepth 100000 in
theorem kf_4_120 : kb_flP 4 (120, 4, 7, 1) := ⟨R_App, F_App, 8, rfl, by decide, u_App, kb_all_in (List.mem_of_getElem? (i := 173) rfl) rfl, fun _ => ⟨rfl, by decide +kernel⟩, fun h => absurd h (by decide)⟩
set_option maxRecDepth 100000 in
theorem kf_4_123 : kb_flP 4 (123, 5, 2, 1) := ⟨R_Slot, F_Slot, 4, rfl, by decide, u_Slot, kb_all_in (List.mem_of_getElem? (i := 153) rfl) rfl, fun _ => ⟨rfl, by decide +kernel⟩, fun h => absurd h (by decide)⟩
set_option maxRecDepth 100000 in
theorem kf_4_137 : kb_flP 4 (137, 4, 0, 1) := ⟨R_App, F_App, 8, rfl, by decide, u_App, kb_all_in (List.mem_of_getElem? (i := 164) rfl) rfl, fun _ => ⟨rfl, by decide +kernel⟩, fun h => absurd h (by decide)⟩
set_option maxRecDepth 100000 in
theorem kf_5_9 : kb_flP 5 (9, 5, 0, 1) := ⟨R_Slot, F_Slot, 4, rfl, by decide, u_Slot, kb_all_in (List.mem_of_getElem? (i := 149) rfl) rfl, fun _ => ⟨rfl, by decide +kernel⟩, fun h => absurd h (by decide)⟩
set_option maxRecDepth 100000 in
theorem kf_6_7 : kb_flP 6 (7, 6, 3, 0) := ⟨R_Model, F_Model, 14, rfl, by decide, u_Model, kb_all_in (List.mem_of_getElem? (i := 524) rfl) rfl, fun h => absurd h (by decide), fun h => absurd h (by decide)⟩
set_option maxRecDepth 100000 in
theorem kf_6_13 : kb_flP 6 (13, 6, 4, 0) := ⟨R_Model, F_Model, 14, rfl, by decide, u_Model, kb_all_in (List.mem_of_getElem? (i := 525) rfl) rfl, fun h => absurd h (by decide), fun h => absurd h (by decide)⟩
set_option maxRecDepth 100000 in
theorem kf_6_16 : kb_flP 6 (16, 6, 5, 0) := ⟨R_Model, F_Model, 14, rfl, by decide, u_Model, kb_all_in (List.mem_of_getElem? (i := 526) rfl) rfl, fun h => absurd h (by decide), fun h => absurd h (by decide)⟩
set_option maxRecDepth 100000 in
theorem kf_6_19 : kb_flP 6 (19, 6, 6, 0) := ⟨R_Model, F_Model, 14, rfl, by decide, u_Model, kb_all_in (List.mem_of_getElem? (i := 527) rfl) rfl, fun h => absurd h (by decide), fun h => absurd h (by decide)⟩
set_option maxRecDepth 100000 in
theorem kf_6_23 : kb_flP 6 (23, 6, 7, 0) := ⟨R_Model, F_Model, 14, rfl, by decide, u_Model, kb_all_in (List.mem_of_getElem? (i := 528) rfl) rfl, fun h => absurd h (by decide), fun h => absurd h (by decide)⟩
set_option maxRecDepth 100000 in
theorem kf_6_26 : kb_flP 6 (26, 6, 8, 0) := ⟨R_Model, F_Model, 14, rfl, by decide, u_Model, kb_all_in (List.mem_of_getElem? (i := 529) rfl) rfl, fun h => absurd h (by decide), fun h => absurd h (by decide)⟩
set_option maxRecDepth 100000 in
theorem kf_6_29 : kb_flP 6 (29, 6, 9, 0) := ⟨R_Model, F_Model, 14, rfl, by decide, u_Model, kb_all_in (List.mem_of_getElem? (i := 530) rfl) rfl, fun h => absurd h (by decide), fun h => absurd h (by decide)⟩
set_option maxRecDepth 100000 in
theorem kf_6_32 : kb_flP 6 (32, 6, 10, 0) := ⟨R_Model, F_Model, 14, rfl, by decide, u_Model, kb_all_in (List.mem_of_getElem? (i := 531) rfl) rfl, fun h => absurd h (by decide), fun h => absurd h (by decide)⟩
set_option maxRecDepth 100000 in
theorem kf_6_35 : kb_flP 6 (35, 6, 11, 0) := ⟨R_Model, F_Model, 14, rfl, by decide, u_Model, kb_all_in (List.mem_of_getElem? (i := 532) rfl) rfl, fun h => absurd h (by decide), fun h => absurd h (by decide)⟩
set_option maxRecDepth 100000 in
theorem kf_6_38 : kb_flP 6 (38, 6, 12, 0) := ⟨R_Model, F_Model, 14, rfl, by decide, u_Model, kb_all_in (List.mem_of_getElem? (i := 533) rfl) rfl, fun h => absurd h (by decide), fun h => absurd h (by decide)⟩
set_option maxRecDepth 100000 in
theorem kf_6_41 : kb_flP 6 (41, 6, 13, 0) := ⟨R_Model, F_Model, 14, rfl, by decide, u_Model, kb_all_in (List.mem_of_getElem? (i := 534) rfl) rfl, fun h => absurd h (by decide), fun h => absurd h (by decide)⟩
set_option maxRecDepth 100000 in
theorem kf_6_59 : kb_flP 6 (59, 6, 0, 1) := ⟨R_Model, F_Model, 14, rfl, by decide, u_Model, kb_all_in (List.mem_of_getElem? (i := 521) rfl) rfl, fun _ => ⟨rfl, by decide +kernel⟩, fun h => absurd h (by decide)⟩
set_option maxRecDepth 100000 in
theorem kf_6_85 : kb_flP 6 (85, 6, 1, 1) := ⟨R_Model, F_Model, 14, rfl, by decide, u_Model, kb_all_in (List.mem_of_getElem? (i := 522) rfl) rfl, fun _ => ⟨rfl, by decide +kernel⟩, fun h => absurd h (by decide)⟩
set_option maxRecDepth 100000 in
theorem kf_6_106 : kb_flP 6 (106, 6, 2, 1) := ⟨R_Model, F_Model, 14, rfl, by decide, u_Model, kb_all_in (List.mem_of_getElem? (i := 523) rfl) rfl, fun _ => ⟨rfl, by decide +kernel⟩, fun h => absurd h (by decide)⟩
set_option maxRecDepth 100000 in
theorem kb_flall : ∀ q ∈ kb_flL, ∀ r ∈ q.2, kb_flP q.1 r := List.forall_mem_cons.mpr ⟨List.forall_mem_cons.mpr ⟨kf_0_12, List.forall_mem_cons.mpr ⟨kf_0_18, List.forall_mem_cons.mpr ⟨kf_0_79, List.forall_mem_cons.mpr ⟨kf_0_107, List.forall_mem_cons.mpr ⟨kf_0_110, List.forall_mem_cons.mpr ⟨kf_0_113, fun _ h => absurd h List.not_mem_nil⟩⟩⟩⟩⟩⟩, List.forall_mem_cons.mpr ⟨List.forall_mem_cons.mpr ⟨kf_1_14, List.forall_mem_cons.mpr ⟨kf_1_20, List.forall_mem_cons.mpr ⟨kf_1_28, List.forall_mem_cons.mpr ⟨kf_1_32, List.forall_mem_cons.mpr ⟨kf_1_72, fun _ h => absurd h List.not_mem_nil⟩⟩⟩⟩⟩, List.forall_mem_cons.mpr ⟨List.forall_mem_cons.mpr ⟨kf_2_9, List.forall_mem_cons.mpr ⟨kf_2_15, List.forall_mem_cons.mpr ⟨kf_2_19, fun _ h => absurd h List.not_mem_nil⟩⟩⟩, List.forall_mem_cons.mpr ⟨List.forall_mem_cons.mpr ⟨kf_3_9, List.forall_mem_cons.mpr ⟨kf_3_15, List.forall_mem_cons.mpr ⟨kf_3_19, List.forall_mem_cons.mpr ⟨kf_3_22, List.forall_mem_cons.mpr ⟨kf_3_25, List.forall_mem_cons.mpr ⟨kf_3_29, List.forall_mem_cons.mpr ⟨kf_3_32, List.forall_mem_cons.mpr ⟨kf_3_75, fun _ h => absurd h List.not_mem_nil⟩⟩⟩⟩⟩⟩⟩⟩, List.forall_mem_cons.mpr ⟨List.forall_mem_cons.mpr ⟨kf_4_9, List.forall_mem_cons.mpr ⟨kf_4_15, List.forall_mem_cons.mpr ⟨kf_4_20, List.forall_mem_cons.mpr ⟨kf_4_24, List.forall_mem_cons.mpr ⟨kf_4_28, List.forall_mem_cons.mpr ⟨kf_4_54, List.forall_mem_cons.mpr ⟨kf_4_60, List.forall_mem_cons.mpr ⟨kf_4_73, List.forall_mem_cons.mpr ⟨kf_4_87, List.forall_mem_cons.mpr ⟨kf_4_97, List.forall_mem_cons.mpr ⟨kf_4_113, List.forall_mem_cons.mpr ⟨kf_4_120, List.forall_mem_cons.mpr ⟨kf_4_123, List.forall_mem_cons.mpr ⟨kf_4_137, fun _ h => absurd h List.not_mem_nil⟩⟩⟩⟩⟩⟩⟩⟩⟩⟩⟩⟩⟩⟩, List.forall_mem_cons.mpr ⟨List.forall_mem_cons.mpr ⟨kf_5_9, fun _ h => absurd h List.not_mem_nil⟩, List.forall_mem_cons.mpr ⟨List.forall_mem_cons.mpr ⟨kf_6_7, List.forall_mem_cons.mpr ⟨kf_6_13, List.forall_mem_cons.mpr ⟨kf_6_16, List.forall_mem_cons.mpr ⟨kf_6_19, List.forall_mem_cons.mpr ⟨kf_6_23, List.forall_mem_cons.mpr ⟨kf_6_26, List.forall_mem_cons.mpr ⟨kf_6_29, List.forall_mem_cons.mpr ⟨kf_6_32, List.forall_mem_cons.mpr ⟨kf_6_35, List.forall_mem_cons.mpr ⟨kf_6_38, List.forall_mem_cons.mpr ⟨kf_6_41, List.forall_mem_cons.mpr ⟨kf_6_59, List.forall_mem_cons.mpr ⟨kf_6_85, List.forall_mem_cons.mpr ⟨kf_6_106, fun _ h => absurd h List.not_mem_nil⟩⟩⟩⟩⟩⟩⟩⟩⟩⟩⟩⟩⟩⟩, fun _ h => absurd h List.not_mem_nil⟩⟩⟩⟩⟩⟩⟩
theorem kb_flok {y x ci k t : Nat} (h : kb_fl y x = some (ci, k, t)) : ∃ N T n, kb_cl[ci]? = some (N, T, n) ∧ k < n ∧ (∀ w ∈ u_ws N T n, w ∈ kb_all) ∧ Cond.fieldLink (kb_nm y).cls x (T k).1 (T k).2.1 (T k).2.2.1 ∈ kb_all ∧ (t = 1 → (T k).2.2.2 = false ∧ parseFieldDescriptor (T k).2.2.1 = some .int) ∧ (t = 2 → (T k).2.2.2 = false ∧ parseFieldDescriptor (T k).2.2.1 = some .boolean) := by
  rw [kb_cls]
  unfold kb_fl at h
  split at h
  next l hl => exact kb_flall _ (kb_lk_mem hl) _ (kb_lk_mem h)
  next => cases h
def kb_caL : List (Nat × List (Nat × Nat)) := [(0, [(25, 20), (29, 60), (33, 61), (37, 62), (41, 63), (45, 64), (48, 65), (52, 66), (56, 95), (60, 94), (64, 82), (69, 83), (72, 84), (75, 85), (83, 86), (86, 81), (89, 97), (92, 93), (96, 103), (104, 104)]), (1, [(35, 94), (39, 79), (43, 98), (47, 80), (51, 100), (55, 97), (59, 93), (63, 101), (76, 89), (79, 105), (84, 99), (88, 104), (91, 87), (95, 88)]), (2, [(28, 104), (32, 110), (36, 109)]), (3, [(36, 79), (40, 91), (44, 107), (50, 106), (54, 108), (58, 90), (62, 92), (66, 102), (70, 81)]), (4, [(43, 68), (46, 70), (50, 69), (63, 106), (69, 77), (76, 75), (80, 73), (84, 78), (90, 105), (93, 96), (101, 107), (105, 71), (109, 111), (116, 74), (126, 72), (129, 76), (133, 108), (140, 102)]), (5, []), (6, [(44, 24), (48, 23), (52, 25), (63, 29), (67, 30), (71, 26), (74, 31), (78, 28), (81, 33), (88, 35), (92, 36), (96, 37), (100, 38), (103, 32), (109, 39), (113, 40), (117, 34), (120, 49)])]
def kb_csL : List (Nat × List (Nat × (Nat ⊕ Nat))) := [(0, [(101, .inl 21)]), (1, [(66, .inr 1), (96, .inr 0)]), (2, [(40, .inr 2)]), (3, []), (4, [(39, .inl 67)]), (5, []), (6, [(55, .inl 22)])]
def kb_kcL : List (Nat × List (Nat × Int32)) := [(0, []), (1, [(83, 2147483647)]), (2, []), (3, [(74, 2147483647)]), (4, []), (5, []), (6, [])]
def kb_ca (y x : Nat) : Option Nat := match kb_lk kb_caL (kb_o y) with
  | some l => kb_lk l x
  | none => none
def kb_cs (y x : Nat) : Option (Nat ⊕ Nat) := match kb_lk kb_csL (kb_o y) with
  | some l => kb_lk l x
  | none => none
def kb_kc (y x : Nat) : Option Int32 := match kb_lk kb_kcL (kb_o y) with
  | some l => kb_lk l x
  | none => none
def kb_caP (o : Nat) (q : Nat × Nat) : Prop := Cond.methodLink (kb_cn o) q.1 (kb_nm q.2) ∈ kb_all ∧ kb_iP (kb_me q.2)
def kb_slP (o x t : Nat) : Prop := (t = 0 → Cond.methodLink (kb_cn o) x Lib.Math.min.name ∈ kb_all ∧ Cond.static Lib.Math.min.name ∈ kb_all ∧ Cond.initialized "java/lang/Math" ∈ kb_all ∧ Cond.code Lib.Math.min.name Lib.Math.min.code 2 (some .int) ∈ kb_all) ∧ (t = 1 → Cond.methodLink (kb_cn o) x Lib.Math.max.name ∈ kb_all ∧ Cond.static Lib.Math.max.name ∈ kb_all ∧ Cond.initialized "java/lang/Math" ∈ kb_all ∧ Cond.code Lib.Math.max.name Lib.Math.max.code 2 (some .int) ∈ kb_all) ∧ (t = 2 → Cond.methodLink (kb_cn o) x arraycopyName ∈ kb_all ∧ Cond.native arraycopyName ∈ kb_all ∧ Cond.static arraycopyName ∈ kb_all ∧ Cond.initialized "java/lang/System" ∈ kb_all)
def kb_csP (o : Nat) (q : Nat × (Nat ⊕ Nat)) : Prop := match q.2 with
  | .inl z => Cond.methodLink (kb_cn o) q.1 (kb_nm z) ∈ kb_all ∧ kb_sP (kb_me z) ∧ (kb_nm z).cls = kb_cn o
  | .inr t => kb_slP o q.1 t
def kb_kcP (o : Nat) (q : Nat × Int32) : Prop := Cond.constant (kb_cn o) q.1 q.2 ∈ kb_all
set_option maxRecDepth 100000 in
theorem kq_0_25 : kb_caP 0 (25, 20) := ⟨kb_all_in (List.mem_of_getElem? (i := 202) rfl) rfl, kj_BK_applicationOf⟩
set_option maxRecDepth 100000 in
theorem kq_0_29 : kb_caP 0 (29, 60) := ⟨kb_all_in (List.mem_of_getElem? (i := 206) rfl) rfl, kj_App_appendWord⟩
set_option maxRecDepth 100000 in
theorem kq_0_33 : kb_caP 0 (33, 61) := ⟨kb_all_in (List.mem_of_getElem? (i := 342) rfl) rfl, kj_App_writeWord⟩
set_option maxRecDepth 100000 in
theorem kq_0_37 : kb_caP 0 (37, 62) := ⟨kb_all_in (List.mem_of_getElem? (i := 350) rfl) rfl, kj_App_readWord⟩
set_option maxRecDepth 100000 in
theorem kq_0_41 : kb_caP 0 (41, 63) := ⟨kb_all_in (List.mem_of_getElem? (i := 362) rfl) rfl, kj_App_lengthOf⟩
set_option maxRecDepth 100000 in
theorem kq_0_45 : kb_caP 0 (45, 64) := ⟨kb_all_in (List.mem_of_getElem? (i := 370) rfl) rfl, kj_App_eraseFile⟩
set_option maxRecDepth 100000 in
theorem kq_0_48 : kb_caP 0 (48, 65) := ⟨kb_all_in (List.mem_of_getElem? (i := 387) rfl) rfl, kj_App_storeAllChanged⟩
set_option maxRecDepth 100000 in
theorem kq_0_52 : kb_caP 0 (52, 66) := ⟨kb_all_in (List.mem_of_getElem? (i := 395) rfl) rfl, kj_App_giveUpOldestFrame⟩
set_option maxRecDepth 100000 in
theorem kq_0_56 : kb_caP 0 (56, 95) := ⟨kb_all_in (List.mem_of_getElem? (i := 403) rfl) rfl, kj_Kernel_bindForGuest⟩
set_option maxRecDepth 100000 in
theorem kq_0_60 : kb_caP 0 (60, 94) := ⟨kb_all_in (List.mem_of_getElem? (i := 424) rfl) rfl, kj_Kernel_guestOf⟩
set_option maxRecDepth 100000 in
theorem kq_0_64 : kb_caP 0 (64, 82) := ⟨kb_all_in (List.mem_of_getElem? (i := 425) rfl) rfl, kj_Guest_putWord⟩
set_option maxRecDepth 100000 in
theorem kq_0_69 : kb_caP 0 (69, 83) := ⟨kb_all_in (List.mem_of_getElem? (i := 446) rfl) rfl, kj_Guest_getWord⟩
set_option maxRecDepth 100000 in
theorem kq_0_72 : kb_caP 0 (72, 84) := ⟨kb_all_in (List.mem_of_getElem? (i := 455) rfl) rfl, kj_Guest_copyWords⟩
set_option maxRecDepth 100000 in
theorem kq_0_75 : kb_caP 0 (75, 85) := ⟨kb_all_in (List.mem_of_getElem? (i := 464) rfl) rfl, kj_Guest_giveBack⟩
set_option maxRecDepth 100000 in
theorem kq_0_83 : kb_caP 0 (83, 86) := ⟨kb_all_in (List.mem_of_getElem? (i := 472) rfl) rfl, kj_Guest_askFor⟩
set_option maxRecDepth 100000 in
theorem kq_0_86 : kb_caP 0 (86, 81) := ⟨kb_all_in (List.mem_of_getElem? (i := 480) rfl) rfl, kj_Guest_stateOf⟩
set_option maxRecDepth 100000 in
theorem kq_0_89 : kb_caP 0 (89, 97) := ⟨kb_all_in (List.mem_of_getElem? (i := 485) rfl) rfl, kj_Kernel_moveTimeTo⟩
set_option maxRecDepth 100000 in
theorem kq_0_92 : kb_caP 0 (92, 93) := ⟨kb_all_in (List.mem_of_getElem? (i := 494) rfl) rfl, kj_Kernel_poolOf⟩
set_option maxRecDepth 100000 in
theorem kq_0_96 : kb_caP 0 (96, 103) := ⟨kb_all_in (List.mem_of_getElem? (i := 495) rfl) rfl, kj_Pool_countFree⟩
set_option maxRecDepth 100000 in
theorem kq_0_104 : kb_caP 0 (104, 104) := ⟨kb_all_in (List.mem_of_getElem? (i := 506) rfl) rfl, kj_Pool_countHeldBy⟩
set_option maxRecDepth 100000 in
theorem kq_0_101 : kb_csP 0 (101, .inl 21) := ⟨kb_all_in (List.mem_of_getElem? (i := 503) rfl) rfl, kj_BK_isEnvironment, rfl⟩
set_option maxRecDepth 100000 in
theorem kq_1_35 : kb_caP 1 (35, 94) := ⟨kb_all_in (List.mem_of_getElem? (i := 407) rfl) rfl, kj_Kernel_guestOf⟩
set_option maxRecDepth 100000 in
theorem kq_1_39 : kb_caP 1 (39, 79) := ⟨kb_all_in (List.mem_of_getElem? (i := 411) rfl) rfl, kj_Guest_hasAllTickets⟩
set_option maxRecDepth 100000 in
theorem kq_1_43 : kb_caP 1 (43, 98) := ⟨kb_all_in (List.mem_of_getElem? (i := 229) rfl) rfl, kj_Kernel_claim⟩
set_option maxRecDepth 100000 in
theorem kq_1_47 : kb_caP 1 (47, 80) := ⟨kb_all_in (List.mem_of_getElem? (i := 415) rfl) rfl, kj_Guest_addTicket⟩
set_option maxRecDepth 100000 in
theorem kq_1_51 : kb_caP 1 (51, 100) := ⟨kb_all_in (List.mem_of_getElem? (i := 242) rfl) rfl, kj_Kernel_earliestDeadline⟩
set_option maxRecDepth 100000 in
theorem kq_1_55 : kb_caP 1 (55, 97) := ⟨kb_all_in (List.mem_of_getElem? (i := 264) rfl) rfl, kj_Kernel_moveTimeTo⟩
set_option maxRecDepth 100000 in
theorem kq_1_59 : kb_caP 1 (59, 93) := ⟨kb_all_in (List.mem_of_getElem? (i := 233) rfl) rfl, kj_Kernel_poolOf⟩
set_option maxRecDepth 100000 in
theorem kq_1_63 : kb_caP 1 (63, 101) := ⟨kb_all_in (List.mem_of_getElem? (i := 237) rfl) rfl, kj_Pool_bindFreeOne⟩
set_option maxRecDepth 100000 in
theorem kq_1_76 : kb_caP 1 (76, 89) := ⟨kb_all_in (List.mem_of_getElem? (i := 268) rfl) rfl, kj_Guest_loseAllDue⟩
set_option maxRecDepth 100000 in
theorem kq_1_79 : kb_caP 1 (79, 105) := ⟨kb_all_in (List.mem_of_getElem? (i := 241) rfl) rfl, kj_Pool_hasFullShare⟩
set_option maxRecDepth 100000 in
theorem kq_1_84 : kb_caP 1 (84, 99) := ⟨kb_all_in (List.mem_of_getElem? (i := 255) rfl) rfl, kj_Kernel_askRicherGuest⟩
set_option maxRecDepth 100000 in
theorem kq_1_88 : kb_caP 1 (88, 104) := ⟨kb_all_in (List.mem_of_getElem? (i := 259) rfl) rfl, kj_Pool_countHeldBy⟩
set_option maxRecDepth 100000 in
theorem kq_1_91 : kb_caP 1 (91, 87) := ⟨kb_all_in (List.mem_of_getElem? (i := 260) rfl) rfl, kj_Guest_askForLastOf⟩
set_option maxRecDepth 100000 in
theorem kq_1_95 : kb_caP 1 (95, 88) := ⟨kb_all_in (List.mem_of_getElem? (i := 246) rfl) rfl, kj_Guest_earliestDeadline⟩
set_option maxRecDepth 100000 in
theorem kq_1_66 : kb_csP 1 (66, .inr 1) := ⟨fun h => absurd h (by decide), fun _ => ⟨kb_all_in (List.mem_of_getElem? (i := 280) rfl) rfl, kb_all_in (List.mem_of_getElem? (i := 281) rfl) rfl, kb_all_in (List.mem_of_getElem? (i := 46) rfl) rfl, kb_all_in (List.mem_of_getElem? (i := 282) rfl) rfl⟩, fun h => absurd h (by decide)⟩
set_option maxRecDepth 100000 in
theorem kq_1_96 : kb_csP 1 (96, .inr 0) := ⟨fun _ => ⟨kb_all_in (List.mem_of_getElem? (i := 251) rfl) rfl, kb_all_in (List.mem_of_getElem? (i := 252) rfl) rfl, kb_all_in (List.mem_of_getElem? (i := 46) rfl) rfl, kb_all_in (List.mem_of_getElem? (i := 253) rfl) rfl⟩, fun h => absurd h (by decide), fun h => absurd h (by decide)⟩
set_option maxRecDepth 100000 in
theorem kk_1_83 : kb_kcP 1 (83, 2147483647) := kb_all_in (List.mem_of_getElem? (i := 254) rfl) rfl
set_option maxRecDepth 100000 in
theorem kq_2_28 : kb_caP 2 (28, 104) := ⟨kb_all_in (List.mem_of_getElem? (i := 221) rfl) rfl, kj_Pool_countHeldBy⟩
set_option maxRecDepth 100000 in
theorem kq_2_32 : kb_caP 2 (32, 110) := ⟨kb_all_in (List.mem_of_getElem? (i := 334) rfl) rfl, kj_Pool_hasWord⟩
set_option maxRecDepth 100000 in
theorem kq_2_36 : kb_caP 2 (36, 109) := ⟨kb_all_in (List.mem_of_getElem? (i := 315) rfl) rfl, kj_Pool_hasResource⟩
set_option maxRecDepth 100000 in
theorem kq_2_40 : kb_csP 2 (40, .inr 2) := ⟨fun h => absurd h (by decide), fun h => absurd h (by decide), fun _ => ⟨kb_all_in (List.mem_of_getElem? (i := 319) rfl) rfl, kb_all_in (List.mem_of_getElem? (i := 321) rfl) rfl, kb_all_in (List.mem_of_getElem? (i := 320) rfl) rfl, kb_all_in (List.mem_of_getElem? (i := 47) rfl) rfl⟩⟩
set_option maxRecDepth 100000 in
theorem kq_3_36 : kb_caP 3 (36, 79) := ⟨kb_all_in (List.mem_of_getElem? (i := 419) rfl) rfl, kj_Guest_hasAllTickets⟩
set_option maxRecDepth 100000 in
theorem kq_3_40 : kb_caP 3 (40, 91) := ⟨kb_all_in (List.mem_of_getElem? (i := 429) rfl) rfl, kj_Guest_isLiveOf⟩
set_option maxRecDepth 100000 in
theorem kq_3_44 : kb_caP 3 (44, 107) := ⟨kb_all_in (List.mem_of_getElem? (i := 441) rfl) rfl, kj_Pool_setWord⟩
set_option maxRecDepth 100000 in
theorem kq_3_50 : kb_caP 3 (50, 106) := ⟨kb_all_in (List.mem_of_getElem? (i := 450) rfl) rfl, kj_Pool_wordAt⟩
set_option maxRecDepth 100000 in
theorem kq_3_54 : kb_caP 3 (54, 108) := ⟨kb_all_in (List.mem_of_getElem? (i := 459) rfl) rfl, kj_Pool_takeWordsFrom⟩
set_option maxRecDepth 100000 in
theorem kq_3_58 : kb_caP 3 (58, 90) := ⟨kb_all_in (List.mem_of_getElem? (i := 433) rfl) rfl, kj_Guest_isLive⟩
set_option maxRecDepth 100000 in
theorem kq_3_62 : kb_caP 3 (62, 92) := ⟨kb_all_in (List.mem_of_getElem? (i := 272) rfl) rfl, kj_Guest_poolOf⟩
set_option maxRecDepth 100000 in
theorem kq_3_66 : kb_caP 3 (66, 102) := ⟨kb_all_in (List.mem_of_getElem? (i := 276) rfl) rfl, kj_Pool_endBinding⟩
set_option maxRecDepth 100000 in
theorem kq_3_70 : kb_caP 3 (70, 81) := ⟨kb_all_in (List.mem_of_getElem? (i := 437) rfl) rfl, kj_Guest_stateOf⟩
set_option maxRecDepth 100000 in
theorem kk_3_74 : kb_kcP 3 (74, 2147483647) := kb_all_in (List.mem_of_getElem? (i := 250) rfl) rfl
set_option maxRecDepth 100000 in
theorem kq_4_43 : kb_caP 4 (43, 68) := ⟨kb_all_in (List.mem_of_getElem? (i := 213) rfl) rfl, kj_App_makeRoomForWord⟩
set_option maxRecDepth 100000 in
theorem kq_4_46 : kb_caP 4 (46, 70) := ⟨kb_all_in (List.mem_of_getElem? (i := 283) rfl) rfl, kj_App_openPartOf⟩
set_option maxRecDepth 100000 in
theorem kq_4_50 : kb_caP 4 (50, 69) := ⟨kb_all_in (List.mem_of_getElem? (i := 326) rfl) rfl, kj_App_changeWord⟩
set_option maxRecDepth 100000 in
theorem kq_4_63 : kb_caP 4 (63, 106) := ⟨kb_all_in (List.mem_of_getElem? (i := 354) rfl) rfl, kj_Pool_wordAt⟩
set_option maxRecDepth 100000 in
theorem kq_4_69 : kb_caP 4 (69, 77) := ⟨kb_all_in (List.mem_of_getElem? (i := 374) rfl) rfl, kj_App_dropPart⟩
set_option maxRecDepth 100000 in
theorem kq_4_76 : kb_caP 4 (76, 75) := ⟨kb_all_in (List.mem_of_getElem? (i := 303) rfl) rfl, kj_App_storeIfChanged⟩
set_option maxRecDepth 100000 in
theorem kq_4_80 : kb_caP 4 (80, 73) := ⟨kb_all_in (List.mem_of_getElem? (i := 295) rfl) rfl, kj_App_oldestSlot⟩
set_option maxRecDepth 100000 in
theorem kq_4_84 : kb_caP 4 (84, 78) := ⟨kb_all_in (List.mem_of_getElem? (i := 378) rfl) rfl, kj_App_giveFrameBack⟩
set_option maxRecDepth 100000 in
theorem kq_4_90 : kb_caP 4 (90, 105) := ⟨kb_all_in (List.mem_of_getElem? (i := 217) rfl) rfl, kj_Pool_hasFullShare⟩
set_option maxRecDepth 100000 in
theorem kq_4_93 : kb_caP 4 (93, 96) := ⟨kb_all_in (List.mem_of_getElem? (i := 225) rfl) rfl, kj_Kernel_bindForApplication⟩
set_option maxRecDepth 100000 in
theorem kq_4_101 : kb_caP 4 (101, 107) := ⟨kb_all_in (List.mem_of_getElem? (i := 330) rfl) rfl, kj_Pool_setWord⟩
set_option maxRecDepth 100000 in
theorem kq_4_105 : kb_caP 4 (105, 71) := ⟨kb_all_in (List.mem_of_getElem? (i := 287) rfl) rfl, kj_App_slotFor⟩
set_option maxRecDepth 100000 in
theorem kq_4_109 : kb_caP 4 (109, 111) := ⟨kb_all_in (List.mem_of_getElem? (i := 299) rfl) rfl, kj_Slot_isEmpty⟩
set_option maxRecDepth 100000 in
theorem kq_4_116 : kb_caP 4 (116, 74) := ⟨kb_all_in (List.mem_of_getElem? (i := 322) rfl) rfl, kj_App_load⟩
set_option maxRecDepth 100000 in
theorem kq_4_126 : kb_caP 4 (126, 72) := ⟨kb_all_in (List.mem_of_getElem? (i := 291) rfl) rfl, kj_App_slotOf⟩
set_option maxRecDepth 100000 in
theorem kq_4_129 : kb_caP 4 (129, 76) := ⟨kb_all_in (List.mem_of_getElem? (i := 307) rfl) rfl, kj_App_blockOf⟩
set_option maxRecDepth 100000 in
theorem kq_4_133 : kb_caP 4 (133, 108) := ⟨kb_all_in (List.mem_of_getElem? (i := 311) rfl) rfl, kj_Pool_takeWordsFrom⟩
set_option maxRecDepth 100000 in
theorem kq_4_140 : kb_caP 4 (140, 102) := ⟨kb_all_in (List.mem_of_getElem? (i := 382) rfl) rfl, kj_Pool_endBinding⟩
set_option maxRecDepth 100000 in
theorem kq_4_39 : kb_csP 4 (39, .inl 67) := ⟨kb_all_in (List.mem_of_getElem? (i := 210) rfl) rfl, kj_App_isFile, rfl⟩
set_option maxRecDepth 100000 in
theorem kq_6_44 : kb_caP 6 (44, 24) := ⟨kb_all_in (List.mem_of_getElem? (i := 572) rfl) rfl, kj_Model_liveOf⟩
set_option maxRecDepth 100000 in
theorem kq_6_48 : kb_caP 6 (48, 23) := ⟨kb_all_in (List.mem_of_getElem? (i := 576) rfl) rfl, kj_Model_blocksOf⟩
set_option maxRecDepth 100000 in
theorem kq_6_52 : kb_caP 6 (52, 25) := ⟨kb_all_in (List.mem_of_getElem? (i := 568) rfl) rfl, kj_Model_count⟩
set_option maxRecDepth 100000 in
theorem kq_6_63 : kb_caP 6 (63, 29) := ⟨kb_all_in (List.mem_of_getElem? (i := 604) rfl) rfl, kj_Model_earliest⟩
set_option maxRecDepth 100000 in
theorem kq_6_67 : kb_caP 6 (67, 30) := ⟨kb_all_in (List.mem_of_getElem? (i := 608) rfl) rfl, kj_Model_mark⟩
set_option maxRecDepth 100000 in
theorem kq_6_71 : kb_caP 6 (71, 26) := ⟨kb_all_in (List.mem_of_getElem? (i := 599) rfl) rfl, kj_Model_free⟩
set_option maxRecDepth 100000 in
theorem kq_6_74 : kb_caP 6 (74, 31) := ⟨kb_all_in (List.mem_of_getElem? (i := 600) rfl) rfl, kj_Model_wish⟩
set_option maxRecDepth 100000 in
theorem kq_6_78 : kb_caP 6 (78, 28) := ⟨kb_all_in (List.mem_of_getElem? (i := 612) rfl) rfl, kj_Model_moveTo⟩
set_option maxRecDepth 100000 in
theorem kq_6_81 : kb_caP 6 (81, 33) := ⟨kb_all_in (List.mem_of_getElem? (i := 591) rfl) rfl, kj_Model_noFile⟩
set_option maxRecDepth 100000 in
theorem kq_6_88 : kb_caP 6 (88, 35) := ⟨kb_all_in (List.mem_of_getElem? (i := 624) rfl) rfl, kj_Model_find⟩
set_option maxRecDepth 100000 in
theorem kq_6_92 : kb_caP 6 (92, 36) := ⟨kb_all_in (List.mem_of_getElem? (i := 628) rfl) rfl, kj_Model_remove⟩
set_option maxRecDepth 100000 in
theorem kq_6_96 : kb_caP 6 (96, 37) := ⟨kb_all_in (List.mem_of_getElem? (i := 632) rfl) rfl, kj_Model_add⟩
set_option maxRecDepth 100000 in
theorem kq_6_100 : kb_caP 6 (100, 38) := ⟨kb_all_in (List.mem_of_getElem? (i := 636) rfl) rfl, kj_Model_storeAt⟩
set_option maxRecDepth 100000 in
theorem kq_6_103 : kb_caP 6 (103, 32) := ⟨kb_all_in (List.mem_of_getElem? (i := 595) rfl) rfl, kj_Model_claim⟩
set_option maxRecDepth 100000 in
theorem kq_6_109 : kb_caP 6 (109, 39) := ⟨kb_all_in (List.mem_of_getElem? (i := 620) rfl) rfl, kj_Model_open⟩
set_option maxRecDepth 100000 in
theorem kq_6_113 : kb_caP 6 (113, 40) := ⟨kb_all_in (List.mem_of_getElem? (i := 616) rfl) rfl, kj_Model_change⟩
set_option maxRecDepth 100000 in
theorem kq_6_117 : kb_caP 6 (117, 34) := ⟨kb_all_in (List.mem_of_getElem? (i := 644) rfl) rfl, kj_Model_noWord⟩
set_option maxRecDepth 100000 in
theorem kq_6_120 : kb_caP 6 (120, 49) := ⟨kb_all_in (List.mem_of_getElem? (i := 676) rfl) rfl, kj_Model_live⟩
set_option maxRecDepth 100000 in
theorem kq_6_55 : kb_csP 6 (55, .inl 22) := ⟨kb_all_in (List.mem_of_getElem? (i := 584) rfl) rfl, kj_Model_within, rfl⟩
set_option maxRecDepth 100000 in
theorem kb_caall : ∀ q ∈ kb_caL, ∀ r ∈ q.2, kb_caP q.1 r := List.forall_mem_cons.mpr ⟨List.forall_mem_cons.mpr ⟨kq_0_25, List.forall_mem_cons.mpr ⟨kq_0_29, List.forall_mem_cons.mpr ⟨kq_0_33, List.forall_mem_cons.mpr ⟨kq_0_37, List.forall_mem_cons.mpr ⟨kq_0_41, List.forall_mem_cons.mpr ⟨kq_0_45, List.forall_mem_cons.mpr ⟨kq_0_48, List.forall_mem_cons.mpr ⟨kq_0_52, List.forall_mem_cons.mpr ⟨kq_0_56, List.forall_mem_cons.mpr ⟨kq_0_60, List.forall_mem_cons.mpr ⟨kq_0_64, List.forall_mem_cons.mpr ⟨kq_0_69, List.forall_mem_cons.mpr ⟨kq_0_72, List.forall_mem_cons.mpr ⟨kq_0_75, List.forall_mem_cons.mpr ⟨kq_0_83, List.forall_mem_cons.mpr ⟨kq_0_86, List.forall_mem_cons.mpr ⟨kq_0_89, List.forall_mem_cons.mpr ⟨kq_0_92, List.forall_mem_cons.mpr ⟨kq_0_96, List.forall_mem_cons.mpr ⟨kq_0_104, fun _ h => absurd h List.not_mem_nil⟩⟩⟩⟩⟩⟩⟩⟩⟩⟩⟩⟩⟩⟩⟩⟩⟩⟩⟩⟩, List.forall_mem_cons.mpr ⟨List.forall_mem_cons.mpr ⟨kq_1_35, List.forall_mem_cons.mpr ⟨kq_1_39, List.forall_mem_cons.mpr ⟨kq_1_43, List.forall_mem_cons.mpr ⟨kq_1_47, List.forall_mem_cons.mpr ⟨kq_1_51, List.forall_mem_cons.mpr ⟨kq_1_55, List.forall_mem_cons.mpr ⟨kq_1_59, List.forall_mem_cons.mpr ⟨kq_1_63, List.forall_mem_cons.mpr ⟨kq_1_76, List.forall_mem_cons.mpr ⟨kq_1_79, List.forall_mem_cons.mpr ⟨kq_1_84, List.forall_mem_cons.mpr ⟨kq_1_88, List.forall_mem_cons.mpr ⟨kq_1_91, List.forall_mem_cons.mpr ⟨kq_1_95, fun _ h => absurd h List.not_mem_nil⟩⟩⟩⟩⟩⟩⟩⟩⟩⟩⟩⟩⟩⟩, List.forall_mem_cons.mpr ⟨List.forall_mem_cons.mpr ⟨kq_2_28, List.forall_mem_cons.mpr ⟨kq_2_32, List.forall_mem_cons.mpr ⟨kq_2_36, fun _ h => absurd h List.not_mem_nil⟩⟩⟩, List.forall_mem_cons.mpr ⟨List.forall_mem_cons.mpr ⟨kq_3_36, List.forall_mem_cons.mpr ⟨kq_3_40, List.forall_mem_cons.mpr ⟨kq_3_44, List.forall_mem_cons.mpr ⟨kq_3_50, List.forall_mem_cons.mpr ⟨kq_3_54, List.forall_mem_cons.mpr ⟨kq_3_58, List.forall_mem_cons.mpr ⟨kq_3_62, List.forall_mem_cons.mpr ⟨kq_3_66, List.forall_mem_cons.mpr ⟨kq_3_70, fun _ h => absurd h List.not_mem_nil⟩⟩⟩⟩⟩⟩⟩⟩⟩, List.forall_mem_cons.mpr ⟨List.forall_mem_cons.mpr ⟨kq_4_43, List.forall_mem_cons.mpr ⟨kq_4_46, List.forall_mem_cons.mpr ⟨kq_4_50, List.forall_mem_cons.mpr ⟨kq_4_63, List.forall_mem_cons.mpr ⟨kq_4_69, List.forall_mem_cons.mpr ⟨kq_4_76, List.forall_mem_cons.mpr ⟨kq_4_80, List.forall_mem_cons.mpr ⟨kq_4_84, List.forall_mem_cons.mpr ⟨kq_4_90, List.forall_mem_cons.mpr ⟨kq_4_93, List.forall_mem_cons.mpr ⟨kq_4_101, List.forall_mem_cons.mpr ⟨kq_4_105, List.forall_mem_cons.mpr ⟨kq_4_109, List.forall_mem_cons.mpr ⟨kq_4_116, List.forall_mem_cons.mpr ⟨kq_4_126, List.forall_mem_cons.mpr ⟨kq_4_129, List.forall_mem_cons.mpr ⟨kq_4_133, List.forall_mem_cons.mpr ⟨kq_4_140, fun _ h => absurd h List.not_mem_nil⟩⟩⟩⟩⟩⟩⟩⟩⟩⟩⟩⟩⟩⟩⟩⟩⟩⟩, List.forall_mem_cons.mpr ⟨fun _ h => absurd h List.not_mem_nil, List.forall_mem_cons.mpr ⟨List.forall_mem_cons.mpr ⟨kq_6_44, List.forall_mem_cons.mpr ⟨kq_6_48, List.forall_mem_cons.mpr ⟨kq_6_52, List.forall_mem_cons.mpr ⟨kq_6_63, List.forall_mem_cons.mpr ⟨kq_6_67, List.forall_mem_cons.mpr ⟨kq_6_71, List.forall_mem_cons.mpr ⟨kq_6_74, List.forall_mem_cons.mpr ⟨kq_6_78, List.forall_mem_cons.mpr ⟨kq_6_81, List.forall_mem_cons.mpr ⟨kq_6_88, List.forall_mem_cons.mpr ⟨kq_6_92, List.forall_mem_cons.mpr ⟨kq_6_96, List.forall_mem_cons.mpr ⟨kq_6_100, List.forall_mem_cons.mpr ⟨kq_6_103, List.forall_mem_cons.mpr ⟨kq_6_109, List.forall_mem_cons.mpr ⟨kq_6_113, List.forall_mem_cons.mpr ⟨kq_6_117, List.forall_mem_cons.mpr ⟨kq_6_120, fun _ h => absurd h List.not_mem_nil⟩⟩⟩⟩⟩⟩⟩⟩⟩⟩⟩⟩⟩⟩⟩⟩⟩⟩, fun _ h => absurd h List.not_mem_nil⟩⟩⟩⟩⟩⟩⟩
set_option maxRecDepth 100000 in
theorem kb_csall : ∀ q ∈ kb_csL, ∀ r ∈ q.2, kb_csP q.1 r := List.forall_mem_cons.mpr ⟨List.forall_mem_cons.mpr ⟨kq_0_101, fun _ h => absurd h List.not_mem_nil⟩, List.forall_mem_cons.mpr ⟨List.forall_mem_cons.mpr ⟨kq_1_66, List.forall_mem_cons.mpr ⟨kq_1_96, fun _ h => absurd h List.not_mem_nil⟩⟩, List.forall_mem_cons.mpr ⟨List.forall_mem_cons.mpr ⟨kq_2_40, fun _ h => absurd h List.not_mem_nil⟩, List.forall_mem_cons.mpr ⟨fun _ h => absurd h List.not_mem_nil, List.forall_mem_cons.mpr ⟨List.forall_mem_cons.mpr ⟨kq_4_39, fun _ h => absurd h List.not_mem_nil⟩, List.forall_mem_cons.mpr ⟨fun _ h => absurd h List.not_mem_nil, List.forall_mem_cons.mpr ⟨List.forall_mem_cons.mpr ⟨kq_6_55, fun _ h => absurd h List.not_mem_nil⟩, fun _ h => absurd h List.not_mem_nil⟩⟩⟩⟩⟩⟩⟩
set_option maxRecDepth 100000 in
theorem kb_kcall : ∀ q ∈ kb_kcL, ∀ r ∈ q.2, kb_kcP q.1 r := List.forall_mem_cons.mpr ⟨fun _ h => absurd h List.not_mem_nil, List.forall_mem_cons.mpr ⟨List.forall_mem_cons.mpr ⟨kk_1_83, fun _ h => absurd h List.not_mem_nil⟩, List.forall_mem_cons.mpr ⟨fun _ h => absurd h List.not_mem_nil, List.forall_mem_cons.mpr ⟨List.forall_mem_cons.mpr ⟨kk_3_74, fun _ h => absurd h List.not_mem_nil⟩, List.forall_mem_cons.mpr ⟨fun _ h => absurd h List.not_mem_nil, List.forall_mem_cons.mpr ⟨fun _ h => absurd h List.not_mem_nil, List.forall_mem_cons.mpr ⟨fun _ h => absurd h List.not_mem_nil, fun _ h => absurd h List.not_mem_nil⟩⟩⟩⟩⟩⟩⟩
theorem kb_caok {y x z : Nat} (h : kb_ca y x = some z) : Cond.methodLink (kb_nm y).cls x (kb_nm z) ∈ kb_all ∧ Cond.instanceMethod (kb_nm z) ∈ kb_all ∧ Cond.selects (kb_nm z).cls (kb_nm z) (kb_nm z) ∈ kb_all ∧ Cond.initialized (kb_nm z).cls ∈ kb_all ∧ Cond.code (kb_nm z) (kb_by z) (kb_mL z) (kb_rt z) ∈ kb_all ∧ (kb_nm z).cls ≠ "java/lang/invoke/MethodHandle" ∧ (kb_nm z).cls ≠ "java/lang/invoke/VarHandle" ∧ (parseMethodDescriptor (kb_nm z).desc).map (fun d => d.parameters.length) = some (kb_np z) ∧ plainName (kb_nm z).cls = true ∧ kb_np z + 1 ≤ kb_mL z ∧ ∃ T n, kb_cl[kb_o z]? = some ((kb_nm z).cls, T, n) := by
  rw [kb_cls y]
  unfold kb_ca at h
  split at h
  next l hl =>
    obtain ⟨h1, ⟨h2, h3, h4, h5, h6, h7⟩, h8, h9, h10, h11⟩ := kb_caall _ (kb_lk_mem hl) _ (kb_lk_mem h)
    exact ⟨h1, h8, h9, h2, h3, h4, h5, h6, h7, h10, h11⟩
  next => cases h
theorem kb_csok {y x z : Nat} (h : kb_cs y x = some (.inl z)) : Cond.methodLink (kb_nm y).cls x (kb_nm z) ∈ kb_all ∧ Cond.static (kb_nm z) ∈ kb_all ∧ (kb_nm z).cls = (kb_nm y).cls ∧ Cond.initialized (kb_nm z).cls ∈ kb_all ∧ Cond.code (kb_nm z) (kb_by z) (kb_mL z) (kb_rt z) ∈ kb_all ∧ (kb_nm z).cls ≠ "java/lang/invoke/MethodHandle" ∧ (kb_nm z).cls ≠ "java/lang/invoke/VarHandle" ∧ (parseMethodDescriptor (kb_nm z).desc).map (fun d => d.parameters.length) = some (kb_np z) ∧ plainName (kb_nm z).cls = true ∧ kb_np z ≤ kb_mL z := by
  rw [kb_cls y]
  unfold kb_cs at h
  split at h
  next l hl =>
    obtain ⟨h1, ⟨⟨h2, h3, h4, h5, h6, h7⟩, h8, h9⟩, h10⟩ := kb_csall _ (kb_lk_mem hl) _ (kb_lk_mem h)
    exact ⟨h1, h8, h10, h2, h3, h4, h5, h6, h7, h9⟩
  next => cases h
theorem kb_csl {y x t : Nat} (h : kb_cs y x = some (.inr t)) : (t = 0 → Cond.methodLink (kb_nm y).cls x Lib.Math.min.name ∈ kb_all ∧ Cond.static Lib.Math.min.name ∈ kb_all ∧ Cond.initialized "java/lang/Math" ∈ kb_all ∧ Cond.code Lib.Math.min.name Lib.Math.min.code 2 (some .int) ∈ kb_all) ∧ (t = 1 → Cond.methodLink (kb_nm y).cls x Lib.Math.max.name ∈ kb_all ∧ Cond.static Lib.Math.max.name ∈ kb_all ∧ Cond.initialized "java/lang/Math" ∈ kb_all ∧ Cond.code Lib.Math.max.name Lib.Math.max.code 2 (some .int) ∈ kb_all) ∧ (t = 2 → Cond.methodLink (kb_nm y).cls x arraycopyName ∈ kb_all ∧ Cond.native arraycopyName ∈ kb_all ∧ Cond.static arraycopyName ∈ kb_all ∧ Cond.initialized "java/lang/System" ∈ kb_all) := by
  rw [kb_cls y]
  unfold kb_cs at h
  split at h
  next l hl => exact kb_csall _ (kb_lk_mem hl) _ (kb_lk_mem h)
  next => cases h
theorem kb_kcok {y x : Nat} {v : Int32} (h : kb_kc y x = some v) : Cond.constant (kb_nm y).cls x v ∈ kb_all := by
  rw [kb_cls y]
  unfold kb_kc at h
  split at h
  next l hl => exact kb_kcall _ (kb_lk_mem hl) _ (kb_lk_mem h)
  next => cases h
end
section
/-! the small machine over the flat memory: one step, a run, what a run reaches; the walk of a stretch by computing -/
def kb_nx (_y pc : Nat) (lv : List (Option kb_v)) (st : List kb_v) (M : kb_M) : Option kb_O := some (.inl (pc, lv, st, M))
def kb_as (b : Bool) (_y pc : Nat) (lv : List (Option kb_v)) (st : List kb_v) (M : kb_M) : Option kb_O := some (.inr (.inr (.inr (.inr (b, pc, lv, st, M)))))
def kb_tg (pc : Nat) (off : Int) : Option Nat := match (pc : Int) + off with
  | .ofNat t => some t
  | .negSucc _ => none
theorem kb_tg_eq {pc : Nat} {off : Int} {t : Nat} (h : kb_tg pc off = some t) : (pc : Int) + off = (t : Int) := by
  unfold kb_tg at h
  split at h
  next a ha => rw [ha, Option.some.inj h]; rfl
  next => cases h
def kb_in (i : Int32) (n : Nat) : Bool := !(decide (i < 0) || Nat.ble n i.toNatClampNeg)
theorem kb_in_vp {i : Int32} {n : Nat} (h : kb_in i n = true) : vp_in i n := by
  intro q
  unfold kb_in at h
  rcases q with q | q
  · rw [decide_eq_true q] at h
    cases h
  · rw [Nat.ble_eq_true_of_le q, Bool.or_true] at h
    cases h
def kb_b1 (f : Int32 → Bool) (off : Int) (_y pc : Nat) (lv : List (Option kb_v)) (st : List kb_v) (M : kb_M) : Option kb_O := match st with
  | .inl a :: r => match kb_tg pc off with
    | some t => some (.inr (.inr (.inr (.inl (f a, (t, lv, r, M), (pc + 3, lv, r, M))))))
    | none => none
  | _ => none
def kb_b2 (f : Int32 → Int32 → Bool) (off : Int) (_y pc : Nat) (lv : List (Option kb_v)) (st : List kb_v) (M : kb_M) : Option kb_O := match st with
  | .inl b :: .inl a :: r => match kb_tg pc off with
    | some t => some (.inr (.inr (.inr (.inl (f a b, (t, lv, r, M), (pc + 3, lv, r, M))))))
    | none => none
  | _ => none
def kb_a2 (f : Int32 → Int32 → Int32) (y pc : Nat) (lv : List (Option kb_v)) (st : List kb_v) (M : kb_M) : Option kb_O := match st with
  | .inl b :: .inl a :: r => kb_nx y (pc + 1) lv (.inl (f a b) :: r) M
  | _ => none
def kb_d2 (f : Int32 → Int32 → Int32) (y pc : Nat) (lv : List (Option kb_v)) (st : List kb_v) (M : kb_M) : Option kb_O := match st with
  | .inl b :: .inl a :: r => kb_as (!(b == 0)) y (pc + 1) lv (.inl (f a b) :: r) M
  | _ => none
def kb_li (k y pc : Nat) (lv : List (Option kb_v)) (st : List kb_v) (M : kb_M) : Option kb_O := match lv[k]? with
  | some (some (.inl x)) => kb_nx y pc lv (.inl x :: st) M
  | _ => none
def kb_la (k y pc : Nat) (lv : List (Option kb_v)) (st : List kb_v) (M : kb_M) : Option kb_O := match lv[k]? with
  | some (some (.inr x)) => kb_nx y pc lv (.inr x :: st) M
  | _ => none
def kb_si (k y pc : Nat) (lv : List (Option kb_v)) (st : List kb_v) (M : kb_M) : Option kb_O := match st, lv[k]? with
  | .inl x :: r, some _ => kb_nx y pc (lv.set k (some (.inl x))) r M
  | _, _ => none
def kb_sa (k y pc : Nat) (lv : List (Option kb_v)) (st : List kb_v) (M : kb_M) : Option kb_O := match st, lv[k]? with
  | .inr x :: r, some _ => kb_nx y pc (lv.set k (some (.inr x))) r M
  | _, _ => none
def kb_ii (k : Nat) (n : Int) (y pc : Nat) (lv : List (Option kb_v)) (st : List kb_v) (M : kb_M) : Option kb_O := match lv[k]? with
  | some (some (.inl x)) => kb_nx y (pc + 3) (lv.set k (some (.inl (x + Int32.ofInt n)))) st M
  | _ => none
def kb_lc (x y pc : Nat) (lv : List (Option kb_v)) (st : List kb_v) (M : kb_M) : Option kb_O := match kb_kc y x with
  | some v => kb_nx y (pc + 2) lv (.inl v :: st) M
  | none => none
def kb_gt (off : Int) (y pc : Nat) (lv : List (Option kb_v)) (st : List kb_v) (M : kb_M) : Option kb_O := match kb_tg pc off with
  | some t => kb_nx y t lv st M
  | none => none
def kb_nu (off : Int) (y pc : Nat) (lv : List (Option kb_v)) (st : List kb_v) (M : kb_M) : Option kb_O := match st with
  | .inr none :: r => kb_gt off y pc lv r M
  | .inr (some _) :: r => kb_nx y (pc + 3) lv r M
  | _ => none
def kb_nn (off : Int) (y pc : Nat) (lv : List (Option kb_v)) (st : List kb_v) (M : kb_M) : Option kb_O := match st with
  | .inr (some _) :: r => kb_gt off y pc lv r M
  | .inr none :: r => kb_nx y (pc + 3) lv r M
  | _ => none
def kb_po (y pc : Nat) (lv : List (Option kb_v)) (st : List kb_v) (M : kb_M) : Option kb_O := match st with
  | _ :: r => kb_nx y (pc + 1) lv r M
  | _ => none
def kb_du (y pc : Nat) (lv : List (Option kb_v)) (st : List kb_v) (M : kb_M) : Option kb_O := match st with
  | a :: r => kb_nx y (pc + 1) lv (a :: a :: r) M
  | _ => none
def kb_du2 (y pc : Nat) (lv : List (Option kb_v)) (st : List kb_v) (M : kb_M) : Option kb_O := match st with
  | a :: b :: r => kb_nx y (pc + 1) lv (a :: b :: a :: b :: r) M
  | _ => none
def kb_al (y pc : Nat) (lv : List (Option kb_v)) (st : List kb_v) (M : kb_M) : Option kb_O := match st with
  | .inr (some c) :: r => match kb_cel c with
    | some (.inl (_, n, _)) => kb_nx y (pc + 1) lv (.inl (Int32.ofNat n) :: r) M
    | _ => none
  | _ => none
/-- a load from an array of kind t (0: ints, 1: booleans) -/
def kb_ld (t y pc : Nat) (lv : List (Option kb_v)) (st : List kb_v) (M : kb_M) : Option kb_O := match st with
  | .inl i :: .inr (some c) :: r => match kb_cel c with
    | some (.inl (u, n, _)) => match Nat.beq u t with
      | true => kb_as (kb_in i n) y (pc + 1) lv (.inl (M c i.toNatClampNeg) :: r) M
      | false => none
    | _ => none
  | _ => none
def kb_ar (y pc : Nat) (lv : List (Option kb_v)) (st : List kb_v) (M : kb_M) : Option kb_O := match st with
  | .inl i :: .inr (some c) :: r => match kb_cel c with
    | some (.inl (u, n, rs)) => match Nat.ble 2 u with
      | true => kb_as (kb_in i n) y (pc + 1) lv (.inr (rs.getD i.toNatClampNeg none) :: r) M
      | false => none
    | _ => none
  | _ => none
def kb_si0 (y pc : Nat) (lv : List (Option kb_v)) (st : List kb_v) (M : kb_M) : Option kb_O := match st with
  | .inl x :: .inl i :: .inr (some c) :: r => match kb_cel c with
    | some (.inl (u, n, _)) => match Nat.beq u 0 with
      | true => kb_as (kb_in i n) y (pc + 1) lv r (kb_up M c i.toNatClampNeg x)
      | false => none
    | _ => none
  | _ => none
def kb_sz1 (y pc : Nat) (lv : List (Option kb_v)) (st : List kb_v) (M : kb_M) : Option kb_O := match st with
  | .inl x :: .inl i :: .inr (some c) :: r => match kb_cel c with
    | some (.inl (u, n, _)) => match Nat.beq u 1 with
      | true => kb_as (kb_in i n && (x == 0 || x == 1)) y (pc + 1) lv r (kb_up M c i.toNatClampNeg x)
      | false => none
    | _ => none
  | _ => none
def kb_gf (x y pc : Nat) (lv : List (Option kb_v)) (st : List kb_v) (M : kb_M) : Option kb_O := match st with
  | .inr (some c) :: r => match kb_fl y x with
    | some (ci, k, _) => match kb_cel c with
      | some (.inr (cj, fs)) => match Nat.beq cj ci, fs[k]? with
        | true, some none => kb_nx y (pc + 3) lv (.inl (M c k) :: r) M
        | true, some (some q) => kb_nx y (pc + 3) lv (.inr q :: r) M
        | _, _ => none
      | _ => none
    | none => none
  | _ => none
def kb_pf (x y pc : Nat) (lv : List (Option kb_v)) (st : List kb_v) (M : kb_M) : Option kb_O := match st with
  | .inl v :: .inr (some c) :: r => match kb_fl y x with
    | some (ci, k, t) => match kb_cel c with
      | some (.inr (cj, fs)) => match Nat.beq cj ci, fs[k]?, t with
        | true, some none, 1 => kb_nx y (pc + 3) lv r (kb_up M c k v)
        | true, some none, 2 => kb_as (v == 0 || v == 1) y (pc + 3) lv r (kb_up M c k v)
        | _, _, _ => none
      | _ => none
    | none => none
  | _ => none
/-- is there room for a call of z out of y, with the operands r left? -/
def kb_ok (y z : Nat) (r : List kb_v) : Bool := Nat.ble (kb_fr z + 1) (kb_fr y) && Nat.ble (8 + (kb_mL z + 11) + kb_lo z) (kb_lo y) && Nat.ble r.length 8
def kb_iv (x y pc : Nat) (lv : List (Option kb_v)) (st : List kb_v) (M : kb_M) : Option kb_O := match kb_ca y x with
  | some z => match st.drop (kb_np z) with
    | .inr (some c) :: r => match kb_cel c with
      | some (.inr (cj, _)) => match Nat.beq cj (kb_o z), kb_ok y z r with
        | true, true => some (.inr (.inr (.inl (z, .inr (some c) :: (st.take (kb_np z)).reverse, (pc + 3, lv, r, M)))))
        | _, _ => none
      | _ => none
    | _ => none
  | none => none
def kb_cpo (sp dp n : Int32) (n0 n1 : Nat) : Bool := !(decide (sp < 0)) && !(decide (dp < 0)) && !(decide (n < 0)) && Nat.ble (sp.toNatClampNeg + n.toNatClampNeg) n0 && Nat.ble (dp.toNatClampNeg + n.toNatClampNeg) n1
def kb_cp (y pc : Nat) (lv : List (Option kb_v)) (st : List kb_v) (M : kb_M) : Option kb_O := match st with
  | .inl n :: .inl dp :: .inr (some d) :: .inl sp :: .inr (some a) :: r => match kb_cel a, kb_cel d with
    | some (.inl (t0, n0, _)), some (.inl (t1, n1, _)) => match Nat.beq t0 0, Nat.beq t1 0 with
      | true, true => kb_as (kb_cpo sp dp n n0 n1) y (pc + 3) lv r (kb_ro M d (va_cpy (M a) (M d) sp.toNatClampNeg dp.toNatClampNeg n.toNatClampNeg))
      | _, _ => none
    | _, _ => none
  | _ => none
def kb_mi (y pc : Nat) (lv : List (Option kb_v)) (st : List kb_v) (M : kb_M) : Option kb_O := match st with
  | .inl b :: .inl a :: r => kb_nx y (pc + 3) lv (.inl (if b < a then b else a) :: r) M
  | _ => none
def kb_mx (y pc : Nat) (lv : List (Option kb_v)) (st : List kb_v) (M : kb_M) : Option kb_O := match st with
  | .inl b :: .inl a :: r => kb_nx y (pc + 3) lv (.inl (if a < b then b else a) :: r) M
  | _ => none
def kb_cs0 (z y pc : Nat) (lv : List (Option kb_v)) (st : List kb_v) (M : kb_M) : Option kb_O := match Nat.ble (kb_np z) st.length, kb_ok y z (st.drop (kb_np z)) with
  | true, true => some (.inr (.inr (.inl (z, (st.take (kb_np z)).reverse, (pc + 3, lv, st.drop (kb_np z), M)))))
  | _, _ => none
/-- a static call: of this program's, or of the library's three: min, max, arraycopy -/
def kb_is (x y pc : Nat) (lv : List (Option kb_v)) (st : List kb_v) (M : kb_M) : Option kb_O := match kb_cs y x with
  | some (.inl z) => kb_cs0 z y pc lv st M
  | some (.inr t) => match Nat.ble 1 (kb_fr y) && Nat.ble 40 (kb_lo y) && Nat.ble st.length 8, t with
    | true, 0 => kb_mi y pc lv st M
    | true, 1 => kb_mx y pc lv st M
    | true, 2 => kb_cp y pc lv st M
    | _, _ => none
  | none => none
def kb_re (y : Nat) (st : List kb_v) (M : kb_M) : Option kb_O := match kb_rt y, st with
  | some .int, [.inl v] => some (.inr (.inl (true, some (.inl v), M)))
  | some .boolean, [.inl v] => some (.inr (.inl (v == 0 || v == 1, some (.inl v), M)))
  | _, _ => none
def kb_ra (y : Nat) (st : List kb_v) (M : kb_M) : Option kb_O := match kb_rt y, st with
  | some (.object _), [.inr v] => some (.inr (.inl (true, some (.inr v), M)))
  | _, _ => none
def kb_rv (y : Nat) (st : List kb_v) (M : kb_M) : Option kb_O := match kb_rt y, st with
  | none, [] => some (.inr (.inl (true, none, M)))
  | _, _ => none
def kb_iadd (y pc : Nat) (lv : List (Option kb_v)) (st : List kb_v) (M : kb_M) : Option kb_O := match st with
  | .inl b :: .inl a :: r => kb_nx y (pc + 1) lv (.inl (a + b) :: r) M
  | _ => none
def kb_isub (y pc : Nat) (lv : List (Option kb_v)) (st : List kb_v) (M : kb_M) : Option kb_O := match st with
  | .inl b :: .inl a :: r => kb_nx y (pc + 1) lv (.inl (a - b) :: r) M
  | _ => none
def kb_imul (y pc : Nat) (lv : List (Option kb_v)) (st : List kb_v) (M : kb_M) : Option kb_O := match st with
  | .inl b :: .inl a :: r => kb_nx y (pc + 1) lv (.inl (a * b) :: r) M
  | _ => none
def kb_idiv (y pc : Nat) (lv : List (Option kb_v)) (st : List kb_v) (M : kb_M) : Option kb_O := match st with
  | .inl b :: .inl a :: r => kb_as (!(b == 0)) y (pc + 1) lv (.inl (a / b) :: r) M
  | _ => none
def kb_irem (y pc : Nat) (lv : List (Option kb_v)) (st : List kb_v) (M : kb_M) : Option kb_O := match st with
  | .inl b :: .inl a :: r => kb_as (!(b == 0)) y (pc + 1) lv (.inl (a - a / b * b) :: r) M
  | _ => none
def kb_ifeq (off : Int) (_y pc : Nat) (lv : List (Option kb_v)) (st : List kb_v) (M : kb_M) : Option kb_O := match st with
  | .inl a :: r => match kb_tg pc off with
    | some t => some (.inr (.inr (.inr (.inl (decide (a = 0), (t, lv, r, M), (pc + 3, lv, r, M))))))
    | none => none
  | _ => none
def kb_ifne (off : Int) (_y pc : Nat) (lv : List (Option kb_v)) (st : List kb_v) (M : kb_M) : Option kb_O := match st with
  | .inl a :: r => match kb_tg pc off with
    | some t => some (.inr (.inr (.inr (.inl (decide (¬ a = 0), (t, lv, r, M), (pc + 3, lv, r, M))))))
    | none => none
  | _ => none
def kb_iflt (off : Int) (_y pc : Nat) (lv : List (Option kb_v)) (st : List kb_v) (M : kb_M) : Option kb_O := match st with
  | .inl a :: r => match kb_tg pc off with
    | some t => some (.inr (.inr (.inr (.inl (decide (a < 0), (t, lv, r, M), (pc + 3, lv, r, M))))))
    | none => none
  | _ => none
def kb_ifge (off : Int) (_y pc : Nat) (lv : List (Option kb_v)) (st : List kb_v) (M : kb_M) : Option kb_O := match st with
  | .inl a :: r => match kb_tg pc off with
    | some t => some (.inr (.inr (.inr (.inl (decide (0 ≤ a), (t, lv, r, M), (pc + 3, lv, r, M))))))
    | none => none
  | _ => none
def kb_iceq (off : Int) (_y pc : Nat) (lv : List (Option kb_v)) (st : List kb_v) (M : kb_M) : Option kb_O := match st with
  | .inl b :: .inl a :: r => match kb_tg pc off with
    | some t => some (.inr (.inr (.inr (.inl (decide (a = b), (t, lv, r, M), (pc + 3, lv, r, M))))))
    | none => none
  | _ => none
def kb_icne (off : Int) (_y pc : Nat) (lv : List (Option kb_v)) (st : List kb_v) (M : kb_M) : Option kb_O := match st with
  | .inl b :: .inl a :: r => match kb_tg pc off with
    | some t => some (.inr (.inr (.inr (.inl (decide (¬ a = b), (t, lv, r, M), (pc + 3, lv, r, M))))))
    | none => none
  | _ => none
def kb_iclt (off : Int) (_y pc : Nat) (lv : List (Option kb_v)) (st : List kb_v) (M : kb_M) : Option kb_O := match st with
  | .inl b :: .inl a :: r => match kb_tg pc off with
    | some t => some (.inr (.inr (.inr (.inl (decide (a < b), (t, lv, r, M), (pc + 3, lv, r, M))))))
    | none => none
  | _ => none
def kb_icge (off : Int) (_y pc : Nat) (lv : List (Option kb_v)) (st : List kb_v) (M : kb_M) : Option kb_O := match st with
  | .inl b :: .inl a :: r => match kb_tg pc off with
    | some t => some (.inr (.inr (.inr (.inl (decide (b ≤ a), (t, lv, r, M), (pc + 3, lv, r, M))))))
    | none => none
  | _ => none
def kb_icgt (off : Int) (_y pc : Nat) (lv : List (Option kb_v)) (st : List kb_v) (M : kb_M) : Option kb_O := match st with
  | .inl b :: .inl a :: r => match kb_tg pc off with
    | some t => some (.inr (.inr (.inr (.inl (decide (b < a), (t, lv, r, M), (pc + 3, lv, r, M))))))
    | none => none
  | _ => none
def kb_icle (off : Int) (_y pc : Nat) (lv : List (Option kb_v)) (st : List kb_v) (M : kb_M) : Option kb_O := match st with
  | .inl b :: .inl a :: r => match kb_tg pc off with
    | some t => some (.inr (.inr (.inr (.inl (decide (a ≤ b), (t, lv, r, M), (pc + 3, lv, r, M))))))
    | none => none
  | _ => none
def kb_st (i : Jvm.ClassFile.Instr) (y pc : Nat) (lv : List (Option kb_v)) (st : List kb_v) (M : kb_M) : Option kb_O := match i with
  | .iconst n => kb_nx y (pc + 1) lv (.inl (Int32.ofInt n) :: st) M
  | .bipush n => kb_nx y (pc + 2) lv (.inl (Int8.ofInt n).toInt32 :: st) M
  | .sipush n => kb_nx y (pc + 3) lv (.inl (Int16.ofInt n).toInt32 :: st) M
  | .ldc x => kb_lc x y pc lv st M
  | .aconst_null => kb_nx y (pc + 1) lv (.inr none :: st) M
  | .iload_n k => kb_li k.val y (pc + 1) lv st M
  | .iload k => kb_li k y (pc + 2) lv st M
  | .aload_n k => kb_la k.val y (pc + 1) lv st M
  | .aload k => kb_la k y (pc + 2) lv st M
  | .istore_n k => kb_si k.val y (pc + 1) lv st M
  | .istore k => kb_si k y (pc + 2) lv st M
  | .astore_n k => kb_sa k.val y (pc + 1) lv st M
  | .astore k => kb_sa k y (pc + 2) lv st M
  | .iinc k n => kb_ii k n y pc lv st M
  | .pop => kb_po y pc lv st M
  | .dup => kb_du y pc lv st M
  | .dup2 => kb_du2 y pc lv st M
  | .iadd => kb_iadd y pc lv st M
  | .isub => kb_isub y pc lv st M
  | .imul => kb_imul y pc lv st M
  | .idiv => kb_idiv y pc lv st M
  | .irem => kb_irem y pc lv st M
  | .goto off => kb_gt off y pc lv st M
  | .ifCond .eq off => kb_ifeq off y pc lv st M
  | .ifCond .ne off => kb_ifne off y pc lv st M
  | .ifCond .lt off => kb_iflt off y pc lv st M
  | .ifCond .ge off => kb_ifge off y pc lv st M
  | .if_icmp .eq off => kb_iceq off y pc lv st M
  | .if_icmp .ne off => kb_icne off y pc lv st M
  | .if_icmp .lt off => kb_iclt off y pc lv st M
  | .if_icmp .ge off => kb_icge off y pc lv st M
  | .if_icmp .gt off => kb_icgt off y pc lv st M
  | .if_icmp .le off => kb_icle off y pc lv st M
  | .ifnull off => kb_nu off y pc lv st M
  | .ifnonnull off => kb_nn off y pc lv st M
  | .arraylength => kb_al y pc lv st M
  | .iaload => kb_ld 0 y pc lv st M
  | .baload => kb_ld 1 y pc lv st M
  | .aaload => kb_ar y pc lv st M
  | .iastore => kb_si0 y pc lv st M
  | .bastore => kb_sz1 y pc lv st M
  | .getfield x => kb_gf x y pc lv st M
  | .putfield x => kb_pf x y pc lv st M
  | .invokevirtual x => kb_iv x y pc lv st M
  | .invokestatic x => kb_is x y pc lv st M
  | .ireturn => kb_re y st M
  | .areturn => kb_ra y st M
  | .return_ => kb_rv y st M
  | _ => none
def kb_step (s : kb_S) : Option kb_O := match kb_ft s.1 s.2.1 with
  | some i => kb_st i s.1 s.2.1 s.2.2.1 s.2.2.2.1 s.2.2.2.2
  | none => none
def kb_en (z : Nat) (a : List kb_v) (M : kb_M) : kb_S := (z, 0, a.map some ++ List.replicate (kb_mL z - a.length) none, [], M)
def kb_pu (s : kb_S) (r : kb_R) : kb_S := (s.1, s.2.1, s.2.2.1, (match r.1 with | some v => v :: s.2.2.2.1 | none => s.2.2.2.1), r.2)
def kb_ex : Nat → kb_S → Option kb_R
  | 0, _ => none
  | n + 1, s => match kb_step s with
    | none => none
    | some (.inl t) => kb_ex n (s.1, t)
    | some (.inr (.inl (b, r))) => cond b (some r) none
    | some (.inr (.inr (.inl (z, a, t)))) => match kb_ex n (kb_en z a t.2.2.2) with
      | none => none
      | some r => kb_ex n (kb_pu (s.1, t) r)
    | some (.inr (.inr (.inr (.inl (b, t, t2))))) => cond b (kb_ex n (s.1, t)) (kb_ex n (s.1, t2))
    | some (.inr (.inr (.inr (.inr (b, t))))) => cond b (kb_ex n (s.1, t)) none
theorem kb_mono1 : ∀ (n : Nat) (s : kb_S) (r : kb_R), kb_ex n s = some r → kb_ex (n + 1) s = some r := by
  intro n
  induction n with
  | zero => intro s r h; cases h
  | succ n ih =>
    intro s r h
    rw [kb_ex] at h ⊢
    cases hs : kb_step s with
    | none => rw [hs] at h; cases h
    | some o =>
      rw [hs] at h
      rcases o with t | ⟨b, r1⟩ | ⟨z, a, t⟩ | ⟨b, t, t2⟩ | ⟨b, t⟩
      · exact ih _ r h
      · exact h
      · dsimp only at h ⊢
        cases h1 : kb_ex n (kb_en z a t.2.2.2) with
        | none => rw [h1] at h; cases h
        | some r1 =>
          rw [h1] at h
          rw [ih _ _ h1]
          exact ih _ _ h
      · cases b
        · exact ih _ r h
        · exact ih _ r h
      · cases b
        · cases h
        · exact ih _ r h
theorem kb_mono {n k : Nat} (hk : n ≤ k) {s : kb_S} {r : kb_R} (h : kb_ex n s = some r) : kb_ex k s = some r := by
  induction hk with
  | refl => exact h
  | step _ ih => exact kb_mono1 _ _ _ ih
/-- what a run reaches: sealed, so that computing stops here -/
def kb_E0 (s : kb_S) (Q : kb_R → Prop) : Prop := ∃ n r, kb_ex n s = some r ∧ Q r
theorem kb_seal : ∃ E : kb_S → (kb_R → Prop) → Prop, E = kb_E0 := ⟨_, rfl⟩
noncomputable def kb_E : kb_S → (kb_R → Prop) → Prop := Classical.choose kb_seal
theorem kb_E_eq : kb_E = kb_E0 := Classical.choose_spec kb_seal
theorem kb_E_get {s : kb_S} {Q : kb_R → Prop} (h : kb_E s Q) : ∃ n r, kb_ex n s = some r ∧ Q r := by
  rw [kb_E_eq] at h
  exact h
theorem kb_E_mk {s : kb_S} {Q : kb_R → Prop} (n : Nat) (r : kb_R) (h : kb_ex n s = some r) (hq : Q r) : kb_E s Q := by
  rw [kb_E_eq]
  exact ⟨n, r, h, hq⟩
theorem kb_E_imp {s : kb_S} {Q Q1 : kb_R → Prop} (h : kb_E s Q) (k : ∀ r, Q r → Q1 r) : kb_E s Q1 := by
  obtain ⟨n, r, h1, h2⟩ := kb_E_get h
  exact kb_E_mk n r h1 (k r h2)
theorem kb_E_nx {s : kb_S} {t : kb_T} {Q : kb_R → Prop} (hs : kb_step s = some (.inl t)) (h : kb_E (s.1, t) Q) : kb_E s Q := by
  obtain ⟨n, r, h1, h2⟩ := kb_E_get h
  exact kb_E_mk (n + 1) r (by rw [kb_ex, hs]; exact h1) h2
theorem kb_E_ret {s : kb_S} {b : Bool} {r : kb_R} {Q : kb_R → Prop} (hs : kb_step s = some (.inr (.inl (b, r)))) (hb : b = true) (h : Q r) : kb_E s Q := by
  subst hb
  exact kb_E_mk 1 r (by rw [kb_ex, hs]; rfl) h
theorem kb_E_call {s : kb_S} {t : kb_T} {z : Nat} {a : List kb_v} {Q : kb_R → Prop} (hs : kb_step s = some (.inr (.inr (.inl (z, a, t))))) (h : kb_E (kb_en z a t.2.2.2) (fun r => kb_E (kb_pu (s.1, t) r) Q)) : kb_E s Q := by
  obtain ⟨n, r, h1, h2⟩ := kb_E_get h
  obtain ⟨n2, r2, h3, h4⟩ := kb_E_get h2
  refine kb_E_mk (n + n2 + 1) r2 ?_ h4
  rw [kb_ex, hs]
  dsimp only
  rw [kb_mono (Nat.le_add_right n n2) h1]
  exact kb_mono (Nat.le_add_left n2 n) h3
theorem kb_E_br {s : kb_S} {t t2 : kb_T} {b : Bool} {Q : kb_R → Prop} (hs : kb_step s = some (.inr (.inr (.inr (.inl (b, t, t2)))))) (h1 : b = true → kb_E (s.1, t) Q) (h2 : b = false → kb_E (s.1, t2) Q) : kb_E s Q := by
  cases b
  · obtain ⟨n, r, g1, g2⟩ := kb_E_get (h2 rfl)
    exact kb_E_mk (n + 1) r (by rw [kb_ex, hs]; exact g1) g2
  · obtain ⟨n, r, g1, g2⟩ := kb_E_get (h1 rfl)
    exact kb_E_mk (n + 1) r (by rw [kb_ex, hs]; exact g1) g2
theorem kb_E_as {s : kb_S} {t : kb_T} {b : Bool} {Q : kb_R → Prop} (hs : kb_step s = some (.inr (.inr (.inr (.inr (b, t)))))) (hb : b = true) (h : kb_E (s.1, t) Q) : kb_E s Q := by
  subst hb
  obtain ⟨n, r, g1, g2⟩ := kb_E_get h
  exact kb_E_mk (n + 1) r (by rw [kb_ex, hs]; exact g1) g2
def kb_mem : List Nat → Nat → Bool
  | [], _ => false
  | a :: l, n => cond (Nat.beq a n) true (kb_mem l n)
/-- the walk of at most n steps, up to a pc of L: what is left to show -/
noncomputable def kb_wp : Nat → List Nat → Nat → Nat → List (Option kb_v) → List kb_v → kb_M → (kb_R → Prop) → Prop
  | 0, _, y, pc, lv, st, M, Q => kb_E (y, pc, lv, st, M) Q
  | n + 1, L, y, pc, lv, st, M, Q => match kb_ft y pc with
    | none => False
    | some i => match kb_st i y pc lv st M with
      | none => False
      | some (.inl (pc1, lv1, st1, M1)) => cond (kb_mem L pc1) (kb_E (y, pc1, lv1, st1, M1) Q) (kb_wp n L y pc1 lv1 st1 M1 Q)
      | some (.inr (.inl (b, r))) => b = true ∧ Q r
      | some (.inr (.inr (.inl (z, a, pc1, lv1, st1, M1)))) => kb_E (kb_en z a M1) (fun r => match r with
        | (some v, M2) => cond (kb_mem L pc1) (kb_E (y, pc1, lv1, v :: st1, M2) Q) (kb_wp n L y pc1 lv1 (v :: st1) M2 Q)
        | (none, M2) => cond (kb_mem L pc1) (kb_E (y, pc1, lv1, st1, M2) Q) (kb_wp n L y pc1 lv1 st1 M2 Q))
      | some (.inr (.inr (.inr (.inl (b, (pc1, lv1, st1, M1), (pc2, lv2, st2, M2)))))) => (b = true → cond (kb_mem L pc1) (kb_E (y, pc1, lv1, st1, M1) Q) (kb_wp n L y pc1 lv1 st1 M1 Q)) ∧ (b = false → cond (kb_mem L pc2) (kb_E (y, pc2, lv2, st2, M2) Q) (kb_wp n L y pc2 lv2 st2 M2 Q))
      | some (.inr (.inr (.inr (.inr (b, pc1, lv1, st1, M1))))) => b = true ∧ cond (kb_mem L pc1) (kb_E (y, pc1, lv1, st1, M1) Q) (kb_wp n L y pc1 lv1 st1 M1 Q)
theorem kb_cd {b : Bool} {P R : Prop} (h : cond b P R) : (b = true ∧ P) ∨ (b = false ∧ R) := by
  cases b
  · exact Or.inr ⟨rfl, h⟩
  · exact Or.inl ⟨rfl, h⟩
theorem kb_go : ∀ (n : Nat) (L : List Nat) {y pc : Nat} {lv : List (Option kb_v)} {st : List kb_v} {M : kb_M} {Q : kb_R → Prop}, kb_wp n L y pc lv st M Q → kb_E (y, pc, lv, st, M) Q := by
  intro n
  induction n with
  | zero => intro L y pc lv st M Q h; exact h
  | succ n ih =>
    intro L y pc lv st M Q h
    have K : ∀ {b : Bool} {pc1 : Nat} {lv1 : List (Option kb_v)} {st1 : List kb_v} {M1 : kb_M}, cond b (kb_E (y, pc1, lv1, st1, M1) Q) (kb_wp n L y pc1 lv1 st1 M1 Q) → kb_E (y, pc1, lv1, st1, M1) Q := by
      intro b pc1 lv1 st1 M1 h1
      rcases kb_cd h1 with ⟨-, h2⟩ | ⟨-, h2⟩
      · exact h2
      · exact ih L h2
    rw [kb_wp] at h
    cases hi : kb_ft y pc with
    | none => rw [hi] at h; exact h.elim
    | some i =>
      rw [hi] at h
      dsimp only at h
      have hs : kb_step (y, pc, lv, st, M) = kb_st i y pc lv st M := by
        unfold kb_step
        dsimp only
        rw [hi]
      cases ho : kb_st i y pc lv st M with
      | none => rw [ho] at h; exact h.elim
      | some o =>
        rw [ho] at h hs
        rcases o with ⟨pc1, lv1, st1, M1⟩ | ⟨b, r1⟩ | ⟨z, a, pc1, lv1, st1, M1⟩ | ⟨b, ⟨pc1, lv1, st1, M1⟩, pc2, lv2, st2, M2⟩ | ⟨b, pc1, lv1, st1, M1⟩
        · exact kb_E_nx hs (K h)
        · exact kb_E_ret hs h.1 h.2
        · refine kb_E_call hs (kb_E_imp h (fun r hr => ?_))
          obtain ⟨v, M2⟩ := r
          cases v with
          | none => exact K hr
          | some v => exact K hr
        · exact kb_E_br hs (fun q => K (h.1 q)) (fun q => K (h.2 q))
        · exact kb_E_as hs h.1 (K h.2)
/-- a call's contract, then the rest -/
theorem kb_E_then {s : kb_S} {Q Q1 : kb_R → Prop} (h : kb_E s Q1) (k : ∀ v M, Q1 (v, M) → Q (v, M)) : kb_E s Q := kb_E_imp h (fun r hr => k r.1 r.2 hr)
end
section
/-! the flat memory as a world, and each step of the small machine as a step of the machine -/
def kb_tv (ad : Nat → Nat) : kb_v → Value
  | .inl x => .int x
  | .inr r => va_rf (r.map ad)
theorem kb_tv_cat (ad : Nat → Nat) (v : kb_v) : (kb_tv ad v).category = 1 := by
  rcases v with x | r
  · rfl
  · cases r <;> rfl
theorem kb_cats (ad : Nat → Nat) (r : List kb_v) : ((r.map (kb_tv ad)).map fun v => v.category).sum = r.length := by
  induction r with
  | nil => rfl
  | cons a r ih => simp only [List.map_cons, List.sum_cons, kb_tv_cat, ih, List.length_cons]; omega
def kb_fv (ad : Nat → Nat) (row : Nat → Int32) : Nat → List (Option (Option Nat)) → List Value
  | _, [] => []
  | f, none :: l => .int (row f) :: kb_fv ad row (f + 1) l
  | f, some r :: l => va_rf (r.map ad) :: kb_fv ad row (f + 1) l
theorem kb_fv_n {ad : Nat → Nat} {row : Nat → Int32} : ∀ (l : List (Option (Option Nat))) (f k : Nat), l[k]? = some none → (kb_fv ad row f l)[k]? = some (.int (row (f + k))) := by
  intro l
  induction l with
  | nil => intro f k h; simp at h
  | cons o l ih =>
    intro f k h
    cases k with
    | zero =>
      have h : some o = some none := h
      cases h
      rfl
    | succ k =>
      have h : l[k]? = some none := h
      have e : f + (k + 1) = f + 1 + k := by omega
      rw [e]
      cases o with
      | none => exact ih (f + 1) k h
      | some r => exact ih (f + 1) k h
theorem kb_fv_s {ad : Nat → Nat} {row : Nat → Int32} {r : Option Nat} : ∀ (l : List (Option (Option Nat))) (f k : Nat), l[k]? = some (some r) → (kb_fv ad row f l)[k]? = some (va_rf (r.map ad)) := by
  intro l
  induction l with
  | nil => intro f k h; simp at h
  | cons o l ih =>
    intro f k h
    cases k with
    | zero =>
      have h : some o = some (some r) := h
      cases h
      rfl
    | succ k =>
      have h : l[k]? = some (some r) := h
      cases o with
      | none => exact ih (f + 1) k h
      | some r => exact ih (f + 1) k h
theorem kb_fv_len {ad : Nat → Nat} {row : Nat → Int32} : ∀ (l : List (Option (Option Nat))) (f : Nat), (kb_fv ad row f l).length = l.length := by
  intro l
  induction l with
  | nil => intro f; rfl
  | cons o l ih =>
    intro f
    cases o with
    | none => simp [kb_fv, ih]
    | some r => simp [kb_fv, ih]
theorem kb_fv_hi {ad : Nat → Nat} {row : Nat → Int32} {x : Int32} : ∀ (l : List (Option (Option Nat))) (f j : Nat), j < f → kb_fv ad (upd row j x) f l = kb_fv ad row f l := by
  intro l
  induction l with
  | nil => intro f j h; rfl
  | cons o l ih =>
    intro f j h
    have h1 : f ≠ j := by omega
    cases o with
    | none => simp only [kb_fv, ih (f + 1) j (by omega), pk_un h1]
    | some r => simp only [kb_fv, ih (f + 1) j (by omega)]
theorem kb_fv_set {ad : Nat → Nat} {row : Nat → Int32} {x : Int32} : ∀ (l : List (Option (Option Nat))) (f k : Nat), l[k]? = some none → (kb_fv ad row f l).set k (.int x) = kb_fv ad (upd row (f + k) x) f l := by
  intro l
  induction l with
  | nil => intro f k h; simp at h
  | cons o l ih =>
    intro f k h
    cases k with
    | zero =>
      have h : some o = some none := h
      cases h
      show Value.int x :: kb_fv ad row (f + 1) l = .int (upd row (f + 0) x f) :: kb_fv ad (upd row (f + 0) x) (f + 1) l
      rw [kb_fv_hi l (f + 1) (f + 0) (by omega), show upd row (f + 0) x f = x from pk_us]
    | succ k =>
      have h : l[k]? = some none := h
      have e : f + (k + 1) = f + 1 + k := by omega
      have h1 : f ≠ f + 1 + k := by omega
      rw [e]
      cases o with
      | none =>
        show Value.int (row f) :: (kb_fv ad row (f + 1) l).set k (.int x) = .int (upd row (f + 1 + k) x f) :: kb_fv ad (upd row (f + 1 + k) x) (f + 1) l
        rw [ih (f + 1) k h, pk_un h1]
      | some r =>
        show va_rf (r.map ad) :: (kb_fv ad row (f + 1) l).set k (.int x) = va_rf (r.map ad) :: kb_fv ad (upd row (f + 1 + k) x) (f + 1) l
        rw [ih (f + 1) k h]
def kb_ce (ad : Nat → Nat) (cA : Nat → ClassId) (k : Nat) (row : Nat → Int32) : va_E := match kb_cel k with
  | some (.inl (u, n, rs)) => cond (Nat.ble 2 u) (.inl (cA u, n, .inr (.inr (.inr (.inr (fun j => (rs.getD j none).map ad)))))) (.inl (cA u, n, .inl row))
  | some (.inr (ci, fs)) => .inr (ci, kb_fv ad row 0 fs)
  | none => .inr (0, [])
theorem kb_ce_a {ad : Nat → Nat} {cA : Nat → ClassId} {k u n : Nat} {rs : List (Option Nat)} {row : Nat → Int32} (h : kb_cel k = some (.inl (u, n, rs))) (hu : Nat.ble 2 u = false) : kb_ce ad cA k row = .inl (cA u, n, .inl row) := by
  unfold kb_ce
  rw [h]
  dsimp only
  rw [hu]
  rfl
theorem kb_ce_r {ad : Nat → Nat} {cA : Nat → ClassId} {k u n : Nat} {rs : List (Option Nat)} {row : Nat → Int32} (h : kb_cel k = some (.inl (u, n, rs))) (hu : Nat.ble 2 u = true) : kb_ce ad cA k row = .inl (cA u, n, .inr (.inr (.inr (.inr (fun j => (rs.getD j none).map ad))))) := by
  unfold kb_ce
  rw [h]
  dsimp only
  rw [hu]
  rfl
theorem kb_ce_o {ad : Nat → Nat} {cA : Nat → ClassId} {k ci : Nat} {fs : List (Option (Option Nat))} {row : Nat → Int32} (h : kb_cel k = some (.inr (ci, fs))) : kb_ce ad cA k row = .inr (ci, kb_fv ad row 0 fs) := by
  unfold kb_ce
  rw [h]
def kb_w (ad : Nat → Nat) (cA : Nat → ClassId) (M : kb_M) : va_W := (List.range kb_n).map (fun k => (ad k, kb_ce ad cA k (M k)))
theorem kb_w_at {ad : Nat → Nat} {cA : Nat → ClassId} {M : kb_M} {k : Nat} (h : k < kb_n) : (kb_w ad cA M)[k]? = some (ad k, kb_ce ad cA k (M k)) := by
  unfold kb_w
  rw [List.getElem?_map, List.getElem?_range h]
  rfl
theorem kb_w_none {ad : Nat → Nat} {cA : Nat → ClassId} {M : kb_M} {k : Nat} (h : ¬ k < kb_n) : (kb_w ad cA M)[k]? = none := by
  unfold kb_w
  rw [List.getElem?_eq_none (by simp; omega)]
theorem kb_w_set {ad : Nat → Nat} {cA : Nat → ClassId} {M : kb_M} {k : Nat} (r : Nat → Int32) : (kb_w ad cA M).set k (ad k, kb_ce ad cA k r) = kb_w ad cA (kb_ro M k r) := by
  apply List.ext_getElem?
  intro i
  by_cases hi : i < kb_n
  · by_cases hk : i = k
    · subst hk
      rw [List.getElem?_set_self (by simpa [kb_w] using hi), kb_w_at hi]
      simp [kb_ro]
    · rw [List.getElem?_set_ne (fun q => hk q.symm), kb_w_at hi, kb_w_at hi]
      simp [kb_ro, hk]
  · rw [kb_w_none hi, List.getElem?_eq_none (by rw [List.length_set]; simp [kb_w]; omega)]
def kb_A (ad : Nat → Nat) : Nat → Prop := fun q => ∃ k, k < kb_n ∧ q = ad k
def kb_inj (ad : Nat → Nat) : Prop := ∀ i j, i < kb_n → j < kb_n → ad i = ad j → i = j
theorem kb_wD {ad : Nat → Nat} {cA : Nat → ClassId} {M : kb_M} (hi : kb_inj ad) : va_D (kb_A ad) (kb_w ad cA M) := by
  have at' : ∀ (i : Nat) (q : Nat × va_E), (kb_w ad cA M)[i]? = some q → i < kb_n ∧ q.1 = ad i := by
    intro i q h
    by_cases hl : i < kb_n
    · rw [kb_w_at hl] at h
      cases h
      exact ⟨hl, rfl⟩
    · rw [kb_w_none hl] at h
      cases h
  refine ⟨fun i j a b ha hb hab => ?_, fun k q hk => ?_⟩
  · obtain ⟨h1, e1⟩ := at' i a ha
    obtain ⟨h2, e2⟩ := at' j b hb
    exact hi i j h1 h2 (by rw [← e1, ← e2]; exact hab)
  · obtain ⟨h1, e1⟩ := at' k q hk
    exact ⟨k, h1, e1⟩
/-- the locals -/
def kb_lh (ad : Nat → Nat) (ls : Array Slot) (n : Nat) (lv : List (Option kb_v)) : Prop := ls.size = n ∧ lv.length = n ∧ lv_wf ls ∧ ∀ (i : Nat) (v : kb_v), lv[i]? = some (some v) → ls[i]? = some (.val (kb_tv ad v))
def kb_ll (ad : Nat → Nat) (lv : List (Option kb_v)) (i : Nat) : Option (Nat × Value) := match lv[i]? with
  | some (some v) => some (i, kb_tv ad v)
  | _ => none
def kb_ls (ad : Nat → Nat) (n : Nat) (lv : List (Option kb_v)) : List (Nat × Value) := (List.range n).filterMap (kb_ll ad lv)
theorem kb_ls_mem {ad : Nat → Nat} {n : Nat} {lv : List (Option kb_v)} {q : Nat × Value} (h : q ∈ kb_ls ad n lv) : ∃ v, lv[q.1]? = some (some v) ∧ q.2 = kb_tv ad v := by
  obtain ⟨i, -, hi⟩ := List.mem_filterMap.mp h
  unfold kb_ll at hi
  split at hi
  next v hv => cases hi; exact ⟨v, hv, rfl⟩
  next => cases hi
theorem kb_ls_in {ad : Nat → Nat} {n : Nat} {lv : List (Option kb_v)} {i : Nat} {v : kb_v} (hi : i < n) (h : lv[i]? = some (some v)) : (i, kb_tv ad v) ∈ kb_ls ad n lv :=
  List.mem_filterMap.mpr ⟨i, List.mem_range.mpr hi, by unfold kb_ll; rw [h]⟩
theorem kb_lh_has {ad : Nat → Nat} {ls : Array Slot} {n : Nat} {lv : List (Option kb_v)} (h : kb_lh ad ls n lv) : lv_has ls n (kb_ls ad n lv) := by
  refine ⟨h.1, h.2.2.1, fun q hq => ?_⟩
  obtain ⟨v, h1, h2⟩ := kb_ls_mem hq
  rw [h2]
  exact h.2.2.2 q.1 v h1
theorem kb_lh_set {ad : Nat → Nat} {ls ls1 : Array Slot} {n k : Nat} {lv : List (Option kb_v)} {v : kb_v} (h : kb_lh ad ls n lv) (h1 : lv_has ls1 n ((k, kb_tv ad v) :: (kb_ls ad n lv).filter (fun q => !(q.1 == k) && !(q.1 + 1 == k && q.2.category == 2)))) : kb_lh ad ls1 n (lv.set k (some v)) := by
  refine ⟨h1.1, by rw [List.length_set]; exact h.2.1, h1.2.1, fun i w hw => ?_⟩
  by_cases hk : i = k
  · subst hk
    have hl : i < lv.length := by
      have := (List.getElem?_eq_some_iff.mp hw).1
      rwa [List.length_set] at this
    rw [List.getElem?_set_self hl] at hw
    cases hw
    exact h1.2.2 (i, kb_tv ad v) List.mem_cons_self
  · rw [List.getElem?_set_ne (fun q => hk q.symm)] at hw
    have hl : i < n := by
      rw [← h.2.1]
      exact (List.getElem?_eq_some_iff.mp hw).1
    refine h1.2.2 (i, kb_tv ad w) (List.mem_cons_of_mem _ (List.mem_filter.mpr ⟨kb_ls_in hl hw, ?_⟩))
    simp [hk, kb_tv_cat]
/-- what stays over a method's walk: tables and frame, then the world's -/
abbrev kb_X : Type := Program × Launch × Env × State × MethodId × Array Value × List Frame × Method × Code × va_G × (Nat → Nat) × (Nat → ClassId) × (kb_R → Prop)
abbrev kx_p (x : kb_X) : Program := x.1
abbrev kx_l (x : kb_X) : Launch := x.2.1
abbrev kx_e (x : kb_X) : Env := x.2.2.1
abbrev kx_s (x : kb_X) : State := x.2.2.2.1
abbrev kx_m (x : kb_X) : MethodId := x.2.2.2.2.1
abbrev kx_a (x : kb_X) : Array Value := x.2.2.2.2.2.1
abbrev kx_b (x : kb_X) : List Frame := x.2.2.2.2.2.2.1
abbrev kx_t (x : kb_X) : Method := x.2.2.2.2.2.2.2.1
abbrev kx_c (x : kb_X) : Code := x.2.2.2.2.2.2.2.2.1
abbrev kx_D (x : kb_X) : va_G := x.2.2.2.2.2.2.2.2.2.1
abbrev kx_ad (x : kb_X) : Nat → Nat := x.2.2.2.2.2.2.2.2.2.2.1
abbrev kx_cA (x : kb_X) : Nat → ClassId := x.2.2.2.2.2.2.2.2.2.2.2.1
abbrev kx_po (x : kb_X) : kb_R → Prop := x.2.2.2.2.2.2.2.2.2.2.2.2
def kb_Q (D : va_G) (ad : Nat → Nat) (cA : Nat → ClassId) (po : kb_R → Prop) : Array Value → State → Outcome → State → Prop := fun _ st oc t => (∃ r : kb_R, oc = .returned (r.1.map (kb_tv ad)) ∧ po r ∧ va_P D kb_cl (kb_w ad cA r.2) t.heap ∧ va_K D kb_cl (kb_ty cA) t) ∧ va_F (kb_A ad) st t
def kb_Pc (D : va_G) (ad : Nat → Nat) (cA : Nat → ClassId) (a : List kb_v) (M : kb_M) : Array Value → State → Prop := va_Pc (a.map (kb_tv ad)) (fun U => va_P D kb_cl (kb_w ad cA M) U.heap ∧ va_K D kb_cl (kb_ty cA) U)
def kb_wo (y : Nat) : List Cond := .code (kb_nm y) (kb_by y) (kb_mL y) (kb_rt y) :: kb_all
def kb_rm (y : Nat) : Room := { frames := kb_fr y, cells := 0, slots := 0, locals := kb_lo y }
def kb_V (x : kb_X) (σ : kb_S) : Prop := ∀ (ls : Array Slot) (H : Heap) (locs : List Loc), kb_lh (kx_ad x) ls (kb_mL σ.1) σ.2.2.1 → va_P (kx_D x) kb_cl (kb_w (kx_ad x) (kx_cA x) σ.2.2.2.2) H → va_S (kb_A (kx_ad x)) (kx_s x).heap H locs →
  W (kx_p x) (kx_l x) (kx_e x) (kb_rm σ.1) (kx_s x) (kx_m x) (kx_a x) (kx_b x) (kx_t x) (kx_c x) H locs 0 0 (MQ (kx_b x) (kb_Q (kx_D x) (kx_ad x) (kx_cA x) (kx_po x)) (kx_a x) (kx_s x) 0 0 (kb_A (kx_ad x))) (F0 (kx_m x) σ.2.1 ls (σ.2.2.2.1.map (kb_tv (kx_ad x))))
def kb_C (x : kb_X) (y : Nat) : Prop := (kx_p x).tables.exec = Jvm.exec ∧ (kx_c x).code = kb_by y ∧ (kx_c x).maxLocals = kb_mL y ∧ (kx_s x).vm.findClass (kb_nm y).cls = some (kx_m x).cls ∧ (∀ w ∈ kb_wo y, w.before (kx_a x) (kx_s x) = true) ∧
  va_K (kx_D x) kb_cl (kb_ty (kx_cA x)) (kx_s x) ∧ (kx_t x).sig.returnType = kb_rt y ∧ (kx_t x).locks = false ∧ kb_inj (kx_ad x)
theorem kb_all_good {y : Nat} {w : Cond} (h : w ∈ kb_all) : w ∈ kb_wo y ∧ ((w.onTables && w.keeps) = true ∨ ∃ ty, w = .arrayClass ty) := ⟨List.mem_cons_of_mem _ h, good_of_word (List.mem_filter.mp h).2⟩
theorem kb_wo_good {y z : Nat} (h : Cond.code (kb_nm z) (kb_by z) (kb_mL z) (kb_rt z) ∈ kb_all) : GoodIn (kb_wo y) (kb_wo z) := by
  intro w hw
  rcases List.mem_cons.mp hw with rfl | hw
  · exact kb_all_good h
  · exact kb_all_good hw
/-- a word of the tables, at a method's entry -/
theorem kb_hw {x : kb_X} {y : Nat} (C : kb_C x y) {w : Cond} (h : w ∈ kb_all) : w.before (kx_a x) (kx_s x) = true := C.2.2.2.2.1 w (List.mem_cons_of_mem _ h)
theorem kb_fix {x : kb_X} {y : Nat} (C : kb_C x y) : CallFix (kx_p x) (kx_m x) (kx_c x) (kb_by y) (kb_mL y) (kx_s x) (kx_a x) (kb_wo y) (kb_nm y).cls := ⟨C.1, C.2.1, C.2.2.1, C.2.2.2.1, C.2.2.2.2.1⟩
/-- a call, whatever it answers -/
theorem kb_callg {p : Program} {l : Launch} {e : Env} {R : Room} {s : State} {m : MethodId} {args : Array Value} {below : List Frame} {meth : Method} {c : Code} {H : Heap} {locs : List Loc} {cells slots : Nat} {Q : State → Prop} {pc : Nat} {ls : Array Slot} {rest st0 : List Value} {a : Array Value} {A0 : Nat → Prop} {H0 : Heap} {free : Addr → Prop}
    {D : va_G} {ad : Nat → Nat} {cA : Nat → ClassId} {po : kb_R → Prop} (hr : va_Run p l e R s m args below meth c H locs cells slots 0 0 (F0 m pc ls st0) rest (kb_Q D ad cA po a) free) (hS : va_S A0 H0 H locs) (hA : ∀ q, kb_A ad q → A0 q) (hf : ∀ q, free q → A0 q)
    (kk : ∀ (r : kb_R) (H1 : Heap) (locs1 : List Loc), po r → va_P D kb_cl (kb_w ad cA r.2) H1 → va_S A0 H0 H1 locs1 → W p l e R s m args below meth c H1 locs1 cells slots Q (F0 m (pc + 3) ls ((r.1.map (kb_tv ad)).toList ++ rest))) : W p l e R s m args below meth c H locs cells slots Q (F0 m pc ls st0) := by
  intro T hT X
  obtain ⟨v, st₀, t, T', L, h0, X', hL, e1, e2, ⟨⟨r, hv, hp, hw, -⟩, hz, hk⟩, st⟩ := hr T hT X
  cases hv
  rw [h0] at hz hk
  obtain ⟨t2, a1, b1⟩ := kk r T'.heap (locs ++ L) hp (by rw [e1]; exact hw)
    ⟨Nat.le_trans hS.1 (by rw [e1]; exact hz), fun q h1 h2 => by rw [e1, hk q (Nat.lt_of_lt_of_le h1 hS.1) (fun z => h2 (hA q z))]; exact hS.2.1 q h1 h2, fun q hq => by
      rcases List.mem_append.mp hq with h | h
      · exact hS.2.2 q h
      · exact hf _ (hL q h)⟩ T' rfl X'
  exact ⟨t2, st t2 a1, b1⟩
theorem kb_blind {D : va_G} {ad : Nat → Nat} {cA : Nat → ClassId} {a : List kb_v} {M : kb_M} : FrameBlind (kb_Pc D ad cA a M) := by
  intro v U g mk q
  obtain ⟨q0, qP, qK⟩ := q
  exact ⟨q0, qP, va_K.moved (u := U) (U := U.calling g mk v) (Vm.Alike.refl U.vm) qK⟩
end
section
/-! each step of the small machine is a step of the machine -/
/-- what must be shown of a step's outcome -/
def kb_af (x : kb_X) (y : Nat) (o : kb_O) : Prop := match o with
  | .inl t => kb_V x (y, t)
  | .inr (.inl (b, r)) => b = true ∧ kx_po x r
  | .inr (.inr (.inl (z, a, t))) => plainName (kb_nm z).cls = true → a.length ≤ kb_mL z → ∃ r : kb_R, Met (kx_l x) (kb_nm z) (kb_wo z) (kb_rm z) (kb_Pc (kx_D x) (kx_ad x) (kx_cA x) a t.2.2.2) (kb_Q (kx_D x) (kx_ad x) (kx_cA x) (fun r1 => r1 = r)) 0 0 (kb_A (kx_ad x)) ∧ kb_V x (kb_pu (y, t) r)
  | .inr (.inr (.inr (.inl (b, t, t2)))) => (b = true → kb_V x (y, t)) ∧ (b = false → kb_V x (y, t2))
  | .inr (.inr (.inr (.inr (b, t)))) => b = true ∧ kb_V x (y, t)
section KS
variable {x : kb_X} {y pc : Nat} {lv : List (Option kb_v)} {st : List kb_v} {M : kb_M} {o : kb_O}
theorem kb_k1 {t : kb_T} (h : some (Sum.inl t) = some o) (K : kb_af x y o) : kb_V x (y, t) := by
  cases h
  exact K
theorem kb_k5 {b : Bool} {t : kb_T} (h : some (Sum.inr (Sum.inr (Sum.inr (Sum.inr (b, t))))) = some o) (K : kb_af x y o) : b = true ∧ kb_V x (y, t) := by
  cases h
  exact K
theorem kb_k4 {b : Bool} {t t2 : kb_T} (h : some (Sum.inr (Sum.inr (Sum.inr (Sum.inl (b, t, t2))))) = some o) (K : kb_af x y o) : (b = true → kb_V x (y, t)) ∧ (b = false → kb_V x (y, t2)) := by
  cases h
  exact K
theorem kb_k2 {b : Bool} {r : kb_R} (h : some (Sum.inr (Sum.inl (b, r))) = some o) (K : kb_af x y o) : b = true ∧ kx_po x r := by
  cases h
  exact K
theorem ks_li {k pc1 : Nat} (ho : kb_li k y pc1 lv st M = some o) (K : kb_af x y o) : ∃ v, lv[k]? = some (some (.inl v)) ∧ kb_V x (y, pc1, lv, .inl v :: st, M) := by
  unfold kb_li at ho
  split at ho
  next v hv => exact ⟨v, hv, kb_k1 ho K⟩
  next => cases ho
theorem ks_la {k pc1 : Nat} (ho : kb_la k y pc1 lv st M = some o) (K : kb_af x y o) : ∃ v, lv[k]? = some (some (.inr v)) ∧ kb_V x (y, pc1, lv, .inr v :: st, M) := by
  unfold kb_la at ho
  split at ho
  next v hv => exact ⟨v, hv, kb_k1 ho K⟩
  next => cases ho
theorem ks_si {k pc1 : Nat} (ho : kb_si k y pc1 lv st M = some o) (K : kb_af x y o) : ∃ v r, st = .inl v :: r ∧ k < lv.length ∧ kb_V x (y, pc1, lv.set k (some (.inl v)), r, M) := by
  unfold kb_si at ho
  split at ho
  next v r w hw => exact ⟨v, r, rfl, (List.getElem?_eq_some_iff.mp hw).1, kb_k1 ho K⟩
  next => cases ho
theorem ks_sa {k pc1 : Nat} (ho : kb_sa k y pc1 lv st M = some o) (K : kb_af x y o) : ∃ v r, st = .inr v :: r ∧ k < lv.length ∧ kb_V x (y, pc1, lv.set k (some (.inr v)), r, M) := by
  unfold kb_sa at ho
  split at ho
  next v r w hw => exact ⟨v, r, rfl, (List.getElem?_eq_some_iff.mp hw).1, kb_k1 ho K⟩
  next => cases ho
theorem ks_b1 {f : Int32 → Bool} {off : Int} (ho : kb_b1 f off y pc lv st M = some o) (K : kb_af x y o) : ∃ (a : Int32) (r : List kb_v) (t : Nat), st = .inl a :: r ∧ (pc : Int) + off = (t : Int) ∧ (f a = true → kb_V x (y, t, lv, r, M)) ∧ (f a = false → kb_V x (y, pc + 3, lv, r, M)) := by
  unfold kb_b1 at ho
  split at ho
  next a r =>
    split at ho
    next t ht => exact ⟨a, r, t, rfl, kb_tg_eq ht, kb_k4 ho K⟩
    next => cases ho
  next => cases ho
theorem ks_b2 {f : Int32 → Int32 → Bool} {off : Int} (ho : kb_b2 f off y pc lv st M = some o) (K : kb_af x y o) : ∃ (a b : Int32) (r : List kb_v) (t : Nat), st = .inl b :: .inl a :: r ∧ (pc : Int) + off = (t : Int) ∧ (f a b = true → kb_V x (y, t, lv, r, M)) ∧ (f a b = false → kb_V x (y, pc + 3, lv, r, M)) := by
  unfold kb_b2 at ho
  split at ho
  next b a r =>
    split at ho
    next t ht => exact ⟨a, b, r, t, rfl, kb_tg_eq ht, kb_k4 ho K⟩
    next => cases ho
  next => cases ho
theorem ks_a2 {f : Int32 → Int32 → Int32} (ho : kb_a2 f y pc lv st M = some o) (K : kb_af x y o) : ∃ a b r, st = .inl b :: .inl a :: r ∧ kb_V x (y, pc + 1, lv, .inl (f a b) :: r, M) := by
  unfold kb_a2 at ho
  split at ho
  next b a r => exact ⟨a, b, r, rfl, kb_k1 ho K⟩
  next => cases ho
theorem ks_d2 {f : Int32 → Int32 → Int32} (ho : kb_d2 f y pc lv st M = some o) (K : kb_af x y o) : ∃ a b r, st = .inl b :: .inl a :: r ∧ ¬ b = 0 ∧ kb_V x (y, pc + 1, lv, .inl (f a b) :: r, M) := by
  unfold kb_d2 at ho
  split at ho
  next b a r =>
    obtain ⟨h1, h2⟩ := kb_k5 ho K
    exact ⟨a, b, r, rfl, by simpa using h1, h2⟩
  next => cases ho
theorem ks_gt {off : Int} (ho : kb_gt off y pc lv st M = some o) (K : kb_af x y o) : ∃ t : Nat, (pc : Int) + off = (t : Int) ∧ kb_V x (y, t, lv, st, M) := by
  unfold kb_gt at ho
  split at ho
  next t ht => exact ⟨t, kb_tg_eq ht, kb_k1 ho K⟩
  next => cases ho
theorem kb_dI {c0 : kb_X} (hx : kb_C c0 y) : (kx_p c0).tables.exec = Jvm.exec := hx.1
theorem kv_iinc (C : kb_C x y) {k : Nat} {n : Int} (hi : kb_ft y pc = some (.iinc k n)) (ho : kb_ii k n y pc lv st M = some o) (K : kb_af x y o) : kb_V x (y, pc, lv, st, M) := by
  unfold kb_ii at ho
  split at ho
  next v hv =>
    have hk := kb_k1 ho K
    intro ls H locs hl hP hS
    have hlt : k < kb_mL y := by rw [← hl.2.1]; exact (List.getElem?_eq_some_iff.mp hv).1
    obtain ⟨j, hj⟩ := List.getElem?_of_mem (kb_ls_in (ad := kx_ad x) hlt hv)
    exact lv_iinc C.1 C.2.1 (kb_dec hi) (kb_lh_has hl) hj rfl hlt rfl (fun ls1 h1 => hk ls1 H locs (kb_lh_set (v := .inl (v + Int32.ofInt n)) hl h1) hP hS)
  next => cases ho
theorem kv_sti (C : kb_C x y) {k : Nat} {v : Int32} {r : List kb_v} (hi : kb_ft y pc = some (.istore k)) (hk : k < lv.length) (K : kb_V x (y, pc + 2, lv.set k (some (.inl v)), r, M)) : kb_V x (y, pc, lv, .inl v :: r, M) := by
  intro ls H locs hl hP hS
  exact lv_istore C.1 C.2.1 (kb_dec hi) (kb_lh_has hl) (by rw [← hl.2.1]; exact hk) rfl (fun ls1 h1 => K ls1 H locs (kb_lh_set (v := .inl v) hl h1) hP hS)
theorem kv_stin (C : kb_C x y) {k : Fin 4} {v : Int32} {r : List kb_v} (hi : kb_ft y pc = some (.istore_n k)) (hk : k.val < lv.length) (K : kb_V x (y, pc + 1, lv.set k.val (some (.inl v)), r, M)) : kb_V x (y, pc, lv, .inl v :: r, M) := by
  intro ls H locs hl hP hS
  exact lv_istore_n C.1 C.2.1 (kb_dec hi) rfl (kb_lh_has hl) (by rw [← hl.2.1]; exact hk) rfl (fun ls1 h1 => K ls1 H locs (kb_lh_set (v := .inl v) hl h1) hP hS)
theorem kv_sta (C : kb_C x y) {k : Nat} {v : Option Nat} {r : List kb_v} (hi : kb_ft y pc = some (.astore k)) (hk : k < lv.length) (K : kb_V x (y, pc + 2, lv.set k (some (.inr v)), r, M)) : kb_V x (y, pc, lv, .inr v :: r, M) := by
  intro ls H locs hl hP hS
  cases v with
  | none => exact lv_astoreN C.1 C.2.1 (kb_dec hi) (kb_lh_has hl) (by rw [← hl.2.1]; exact hk) rfl (fun ls1 h1 => K ls1 H locs (kb_lh_set (v := .inr none) hl h1) hP hS)
  | some a => exact lv_astore C.1 C.2.1 (kb_dec hi) (kb_lh_has hl) (by rw [← hl.2.1]; exact hk) rfl (fun ls1 h1 => K ls1 H locs (kb_lh_set (v := .inr (some a)) hl h1) hP hS)
theorem kv_stan (C : kb_C x y) {k : Fin 4} {v : Option Nat} {r : List kb_v} (hi : kb_ft y pc = some (.astore_n k)) (hk : k.val < lv.length) (K : kb_V x (y, pc + 1, lv.set k.val (some (.inr v)), r, M)) : kb_V x (y, pc, lv, .inr v :: r, M) := by
  intro ls H locs hl hP hS
  cases v with
  | none => exact lv_astore_nN C.1 C.2.1 (kb_dec hi) rfl (kb_lh_has hl) (by rw [← hl.2.1]; exact hk) rfl (fun ls1 h1 => K ls1 H locs (kb_lh_set (v := .inr none) hl h1) hP hS)
  | some a => exact lv_astore_n C.1 C.2.1 (kb_dec hi) rfl (kb_lh_has hl) (by rw [← hl.2.1]; exact hk) rfl (fun ls1 h1 => K ls1 H locs (kb_lh_set (v := .inr (some a)) hl h1) hP hS)
theorem kv_lda (C : kb_C x y) {k : Nat} {v : Option Nat} (hi : kb_ft y pc = some (.aload k)) (hv : lv[k]? = some (some (.inr v))) (K : kb_V x (y, pc + 2, lv, .inr v :: st, M)) : kb_V x (y, pc, lv, st, M) := by
  intro ls H locs hl hP hS
  have h1 := hl.2.2.2 k _ hv
  have h2 := K ls H locs hl hP hS
  cases v with
  | none => exact lv_aloadN C.1 C.2.1 (kb_dec hi) h1 h2
  | some a => exact lv_aload C.1 C.2.1 (kb_dec hi) h1 h2
theorem kv_ldan (C : kb_C x y) {k : Fin 4} {v : Option Nat} (hi : kb_ft y pc = some (.aload_n k)) (hv : lv[k.val]? = some (some (.inr v))) (K : kb_V x (y, pc + 1, lv, .inr v :: st, M)) : kb_V x (y, pc, lv, st, M) := by
  intro ls H locs hl hP hS
  have h1 := hl.2.2.2 k.val _ hv
  have h2 := K ls H locs hl hP hS
  cases v with
  | none => exact lv_aload_nN C.1 C.2.1 (kb_dec hi) rfl h1 h2
  | some a => exact lv_aload_n C.1 C.2.1 (kb_dec hi) rfl h1 h2
/-- the jumps: what a comparison says, as a truth value -/
theorem kb_dt {P : Prop} {_ : Decidable P} {X : Prop} (h : decide P = true → X) : P → X := fun q => h (decide_eq_true q)
theorem kb_df {P : Prop} {_ : Decidable P} {X : Prop} (h : decide P = false → X) : ¬ P → X := fun q => h (decide_eq_false q)
theorem kb_dfn {P : Prop} {_ : Decidable (¬ P)} {X : Prop} (h : decide (¬ P) = false → X) : P → X := fun q => h (decide_eq_false (fun z => z q))
theorem kv_if {cnd : Jvm.ClassFile.Cond} {off : Int} (C : kb_C x y) (hi : kb_ft y pc = some (.ifCond cnd off)) (ho : kb_st (.ifCond cnd off) y pc lv st M = some o) (K : kb_af x y o) : kb_V x (y, pc, lv, st, M) := by
  cases cnd with
  | eq =>
    obtain ⟨a, r, t, rfl, ht, k1, k2⟩ := ks_b1 (f := fun a => decide (a = 0)) ho K
    exact fun ls H locs hl hP hS => lv_if_eq C.1 C.2.1 (kb_dec hi) ht (fun q => kb_dt k1 q ls H locs hl hP hS) (fun q => kb_df k2 q ls H locs hl hP hS)
  | ne =>
    obtain ⟨a, r, t, rfl, ht, k1, k2⟩ := ks_b1 (f := fun a => decide (¬ a = 0)) ho K
    exact fun ls H locs hl hP hS => lv_if_ne C.1 C.2.1 (kb_dec hi) ht (fun q => kb_dt k1 q ls H locs hl hP hS) (fun q => kb_dfn k2 q ls H locs hl hP hS)
  | lt =>
    obtain ⟨a, r, t, rfl, ht, k1, k2⟩ := ks_b1 (f := fun a => decide (a < 0)) ho K
    exact fun ls H locs hl hP hS => lv_if_lt C.1 C.2.1 (kb_dec hi) ht (fun q => kb_dt k1 q ls H locs hl hP hS) (fun q => kb_df k2 q ls H locs hl hP hS)
  | ge =>
    obtain ⟨a, r, t, rfl, ht, k1, k2⟩ := ks_b1 (f := fun a => decide (0 ≤ a)) ho K
    exact fun ls H locs hl hP hS => lv_if_ge C.1 C.2.1 (kb_dec hi) ht (fun q => kb_dt k1 q ls H locs hl hP hS) (fun q => kb_df k2 q ls H locs hl hP hS)
  | gt => exact absurd (show (none : Option kb_O) = some o from ho) (by simp)
  | le => exact absurd (show (none : Option kb_O) = some o from ho) (by simp)
theorem kv_icmp {cnd : Jvm.ClassFile.Cond} {off : Int} (C : kb_C x y) (hi : kb_ft y pc = some (.if_icmp cnd off)) (ho : kb_st (.if_icmp cnd off) y pc lv st M = some o) (K : kb_af x y o) : kb_V x (y, pc, lv, st, M) := by
  cases cnd with
  | eq =>
    obtain ⟨a, b, r, t, rfl, ht, k1, k2⟩ := ks_b2 (f := fun a b => decide (a = b)) ho K
    exact fun ls H locs hl hP hS => lv_icmp_eq C.1 C.2.1 (kb_dec hi) ht (fun q => kb_dt k1 q ls H locs hl hP hS) (fun q => kb_df k2 q ls H locs hl hP hS)
  | ne =>
    obtain ⟨a, b, r, t, rfl, ht, k1, k2⟩ := ks_b2 (f := fun a b => decide (¬ a = b)) ho K
    exact fun ls H locs hl hP hS => lv_icmp_ne C.1 C.2.1 (kb_dec hi) ht (fun q => kb_dt k1 q ls H locs hl hP hS) (fun q => kb_dfn k2 q ls H locs hl hP hS)
  | lt =>
    obtain ⟨a, b, r, t, rfl, ht, k1, k2⟩ := ks_b2 (f := fun a b => decide (a < b)) ho K
    exact fun ls H locs hl hP hS => lv_icmp_lt C.1 C.2.1 (kb_dec hi) ht (fun q => kb_dt k1 q ls H locs hl hP hS) (fun q => kb_df k2 q ls H locs hl hP hS)
  | ge =>
    obtain ⟨a, b, r, t, rfl, ht, k1, k2⟩ := ks_b2 (f := fun a b => decide (b ≤ a)) ho K
    exact fun ls H locs hl hP hS => lv_icmp_ge C.1 C.2.1 (kb_dec hi) ht (fun q => kb_dt k1 q ls H locs hl hP hS) (fun q => kb_df k2 q ls H locs hl hP hS)
  | gt =>
    obtain ⟨a, b, r, t, rfl, ht, k1, k2⟩ := ks_b2 (f := fun a b => decide (b < a)) ho K
    exact fun ls H locs hl hP hS => lv_icmp_gt C.1 C.2.1 (kb_dec hi) ht (fun q => kb_dt k1 q ls H locs hl hP hS) (fun q => kb_df k2 q ls H locs hl hP hS)
  | le =>
    obtain ⟨a, b, r, t, rfl, ht, k1, k2⟩ := ks_b2 (f := fun a b => decide (a ≤ b)) ho K
    exact fun ls H locs hl hP hS => lv_icmp_le C.1 C.2.1 (kb_dec hi) ht (fun q => kb_dt k1 q ls H locs hl hP hS) (fun q => kb_df k2 q ls H locs hl hP hS)
theorem kv_null {off : Int} (C : kb_C x y) (hi : kb_ft y pc = some (.ifnull off)) (ho : kb_nu off y pc lv st M = some o) (K : kb_af x y o) : kb_V x (y, pc, lv, st, M) := by
  unfold kb_nu at ho
  split at ho
  next r =>
    obtain ⟨t, ht, k⟩ := ks_gt ho K
    exact fun ls H locs hl hP hS => lv_ifnullN C.1 C.2.1 (kb_dec hi) ht (k ls H locs hl hP hS)
  next a r =>
    have k := kb_k1 ho K
    exact fun ls H locs hl hP hS => lv_ifnull C.1 C.2.1 (kb_dec hi) (k ls H locs hl hP hS)
  next => cases ho
theorem kv_nonnull {off : Int} (C : kb_C x y) (hi : kb_ft y pc = some (.ifnonnull off)) (ho : kb_nn off y pc lv st M = some o) (K : kb_af x y o) : kb_V x (y, pc, lv, st, M) := by
  unfold kb_nn at ho
  split at ho
  next a r =>
    obtain ⟨t, ht, k⟩ := ks_gt ho K
    exact fun ls H locs hl hP hS => lv_ifnonnull C.1 C.2.1 (kb_dec hi) ht (k ls H locs hl hP hS)
  next r =>
    have k := kb_k1 ho K
    exact fun ls H locs hl hP hS => lv_ifnonnullN C.1 C.2.1 (kb_dec hi) (k ls H locs hl hP hS)
  next => cases ho
theorem kv_stack (C : kb_C x y) : (∀ (_ : kb_ft y pc = some .pop) (_ : kb_po y pc lv st M = some o) (_ : kb_af x y o), kb_V x (y, pc, lv, st, M)) ∧ (∀ (_ : kb_ft y pc = some .dup) (_ : kb_du y pc lv st M = some o) (_ : kb_af x y o), kb_V x (y, pc, lv, st, M)) ∧ (∀ (_ : kb_ft y pc = some .dup2) (_ : kb_du2 y pc lv st M = some o) (_ : kb_af x y o), kb_V x (y, pc, lv, st, M)) := by
  refine ⟨fun hi ho K => ?_, fun hi ho K => ?_, fun hi ho K => ?_⟩
  · unfold kb_po at ho
    split at ho
    next a r =>
      have k := kb_k1 ho K
      exact fun ls H locs hl hP hS => lv_pop C.1 C.2.1 (kb_dec hi) (kb_tv_cat _ a) (k ls H locs hl hP hS)
    next => cases ho
  · unfold kb_du at ho
    split at ho
    next a r =>
      have k := kb_k1 ho K
      exact fun ls H locs hl hP hS => lv_dup C.1 C.2.1 (kb_dec hi) (kb_tv_cat _ a) (k ls H locs hl hP hS)
    next => cases ho
  · unfold kb_du2 at ho
    split at ho
    next a b r =>
      have k := kb_k1 ho K
      exact fun ls H locs hl hP hS => lv_dup2_11 C.1 C.2.1 (kb_dec hi) (kb_tv_cat _ a) (kb_tv_cat _ b) (k ls H locs hl hP hS)
    next => cases ho
theorem kv_alen (C : kb_C x y) (hi : kb_ft y pc = some .arraylength) (ho : kb_al y pc lv st M = some o) (K : kb_af x y o) : kb_V x (y, pc, lv, st, M) := by
  unfold kb_al at ho
  split at ho
  next c r =>
    split at ho
    next u n rs hc =>
      have k := kb_k1 ho K
      obtain ⟨h1, h2⟩ := kb_celA hc
      obtain ⟨ty, h3⟩ := kb_tyU (kx_cA x) h2
      intro ls H locs hl hP hS
      cases hu : Nat.ble 2 u with
      | true =>
        have ha : (kb_w (kx_ad x) (kx_cA x) M)[c]? = some (kx_ad x c, .inl (kx_cA x u, n, .inr (.inr (.inr (.inr (fun j => (rs.getD j none).map (kx_ad x))))))) := by rw [kb_w_at h1, kb_ce_r hc hu]
        exact va_alen C.1 C.2.1 C.2.2.2.2.2.1 hP c u ha h3 rfl (kb_dec hi) (k ls H locs hl hP hS)
      | false =>
        have ha : (kb_w (kx_ad x) (kx_cA x) M)[c]? = some (kx_ad x c, .inl (kx_cA x u, n, .inl (M c))) := by rw [kb_w_at h1, kb_ce_a hc hu]
        exact va_alen C.1 C.2.1 C.2.2.2.2.2.1 hP c u ha h3 rfl (kb_dec hi) (k ls H locs hl hP hS)
    next => cases ho
  next => cases ho
theorem ks_ld {t : Nat} (ho : kb_ld t y pc lv st M = some o) (K : kb_af x y o) : ∃ i c r n rs, st = .inl i :: .inr (some c) :: r ∧ kb_cel c = some (.inl (t, n, rs)) ∧ vp_in i n ∧ kb_V x (y, pc + 1, lv, .inl (M c i.toNatClampNeg) :: r, M) := by
  unfold kb_ld at ho
  split at ho
  next i c r =>
    split at ho
    next u n rs hc =>
      split at ho
      next hu =>
        have e := Nat.eq_of_beq_eq_true hu
        subst e
        obtain ⟨h1, h2⟩ := kb_k5 ho K
        exact ⟨i, c, r, n, rs, rfl, hc, kb_in_vp h1, h2⟩
      next => cases ho
    next => cases ho
  next => cases ho
theorem kv_iald (C : kb_C x y) (hi : kb_ft y pc = some .iaload) (ho : kb_ld 0 y pc lv st M = some o) (K : kb_af x y o) : kb_V x (y, pc, lv, st, M) := by
  obtain ⟨i, c, r, n, rs, rfl, hc, hin, k⟩ := ks_ld ho K
  exact fun ls H locs hl hP hS => va_iald C.1 C.2.1 C.2.2.2.2.2.1 hP c 0 (by rw [kb_w_at (kb_celA hc).1, kb_ce_a hc rfl]) rfl hin (kb_dec hi) (k ls H locs hl hP hS)
theorem kv_zald (C : kb_C x y) (hi : kb_ft y pc = some .baload) (ho : kb_ld 1 y pc lv st M = some o) (K : kb_af x y o) : kb_V x (y, pc, lv, st, M) := by
  obtain ⟨i, c, r, n, rs, rfl, hc, hin, k⟩ := ks_ld ho K
  exact fun ls H locs hl hP hS => va_zald C.1 C.2.1 C.2.2.2.2.2.1 hP c 1 (by rw [kb_w_at (kb_celA hc).1, kb_ce_a hc rfl]) rfl hin (kb_dec hi) (k ls H locs hl hP hS)
theorem kv_aald (C : kb_C x y) (hi : kb_ft y pc = some .aaload) (ho : kb_ar y pc lv st M = some o) (K : kb_af x y o) : kb_V x (y, pc, lv, st, M) := by
  unfold kb_ar at ho
  split at ho
  next i c r =>
    split at ho
    next u n rs hc =>
      split at ho
      next hu =>
        obtain ⟨h1, k⟩ := kb_k5 ho K
        obtain ⟨h2, h3⟩ := kb_celA hc
        obtain ⟨N, h4⟩ := kb_tyR (kx_cA x) h3 hu
        have ha : (kb_w (kx_ad x) (kx_cA x) M)[c]? = some (kx_ad x c, .inl (kx_cA x u, n, .inr (.inr (.inr (.inr (fun j => (rs.getD j none).map (kx_ad x))))))) := by rw [kb_w_at h2, kb_ce_r hc hu]
        exact fun ls H locs hl hP hS => va_aldq C.1 C.2.1 C.2.2.2.2.2.1 hP c u ha h4 (kb_in_vp h1) (kb_dec hi) (k ls H locs hl hP hS)
      next => cases ho
    next => cases ho
  next => cases ho
theorem kv_iast (C : kb_C x y) (hi : kb_ft y pc = some .iastore) (ho : kb_si0 y pc lv st M = some o) (K : kb_af x y o) : kb_V x (y, pc, lv, st, M) := by
  unfold kb_si0 at ho
  split at ho
  next v i c r =>
    split at ho
    next u n rs hc =>
      split at ho
      next hu =>
        have e := Nat.eq_of_beq_eq_true hu
        subst e
        obtain ⟨h1, k⟩ := kb_k5 ho K
        intro ls H locs hl hP hS
        refine va_iast C.1 C.2.1 C.2.2.2.2.2.1 hP (kb_wD C.2.2.2.2.2.2.2.2) hS c 0 (by rw [kb_w_at (kb_celA hc).1, kb_ce_a hc rfl]) rfl (kb_in_vp h1) (kb_dec hi) (fun H1 locs1 hP1 _ hS1 => k ls H1 locs1 hl ?_ hS1)
        rw [← kb_ce_a (row := upd (M c) i.toNatClampNeg v) hc rfl, kb_w_set] at hP1
        exact hP1
      next => cases ho
    next => cases ho
  next => cases ho
theorem kb_01 {v : Int32} (h : (v == 0 || v == 1) = true) : v = 0 ∨ v = 1 := by
  simpa using h
theorem kb_nar {v : Int32} (h : v = 0 ∨ v = 1) : vp_nar .boolean v = v ∧ narrow .boolean (.int v) = .int v ∧ fits .boolean (.int v) = true := by
  rcases h with rfl | rfl
  · exact ⟨by decide, by decide, by decide⟩
  · exact ⟨by decide, by decide, by decide⟩
theorem kv_zast (C : kb_C x y) (hi : kb_ft y pc = some .bastore) (ho : kb_sz1 y pc lv st M = some o) (K : kb_af x y o) : kb_V x (y, pc, lv, st, M) := by
  unfold kb_sz1 at ho
  split at ho
  next v i c r =>
    split at ho
    next u n rs hc =>
      split at ho
      next hu =>
        have e := Nat.eq_of_beq_eq_true hu
        subst e
        obtain ⟨h0, k⟩ := kb_k5 ho K
        rw [Bool.and_eq_true] at h0
        obtain ⟨h1, h2⟩ := h0
        have hn := (kb_nar (kb_01 h2)).1
        intro ls H locs hl hP hS
        refine va_zast C.1 C.2.1 C.2.2.2.2.2.1 hP (kb_wD C.2.2.2.2.2.2.2.2) hS c 1 (by rw [kb_w_at (kb_celA hc).1, kb_ce_a hc rfl]) rfl (kb_in_vp h1) (kb_dec hi) (fun H1 locs1 hP1 _ hS1 => k ls H1 locs1 hl ?_ hS1)
        rw [hn, ← kb_ce_a (row := upd (M c) i.toNatClampNeg v) hc rfl, kb_w_set] at hP1
        exact hP1
      next => cases ho
    next => cases ho
  next => cases ho
theorem kv_get {f : Nat} (C : kb_C x y) (hi : kb_ft y pc = some (.getfield f)) (ho : kb_gf f y pc lv st M = some o) (K : kb_af x y o) : kb_V x (y, pc, lv, st, M) := by
  unfold kb_gf at ho
  split at ho
  next c r =>
    split at ho
    next ci k t hf =>
      split at ho
      next cj fs hc =>
        obtain ⟨N, T, n, h1, h2, h3, h4, -⟩ := kb_flok hf
        split at ho
        next hb hk =>
          have e := Nat.eq_of_beq_eq_true hb
          subst e
          have kk := kb_k1 ho K
          exact fun ls H locs hl hP hS => va_get C.1 C.2.1 C.2.2.2.2.1 (fun w hw => List.mem_cons_of_mem _ (h3 w hw)) C.2.2.2.1 C.2.2.2.2.2.1 hP c (by rw [kb_w_at (kb_celO hc), kb_ce_o hc]) h1 k h2 (kb_hw C h4) (fun _ h9 => h9) (by rw [kb_fv_n fs 0 k hk, Nat.zero_add]; rfl) (kb_dec hi) (kk ls H locs hl hP hS)
        next q hb hk =>
          have e := Nat.eq_of_beq_eq_true hb
          subst e
          have kk := kb_k1 ho K
          exact fun ls H locs hl hP hS => va_get C.1 C.2.1 C.2.2.2.2.1 (fun w hw => List.mem_cons_of_mem _ (h3 w hw)) C.2.2.2.1 C.2.2.2.2.2.1 hP c (by rw [kb_w_at (kb_celO hc), kb_ce_o hc]) h1 k h2 (kb_hw C h4) (fun _ h9 => h9) (kb_fv_s fs 0 k hk) (kb_dec hi) (kk ls H locs hl hP hS)
        next => cases ho
      next => cases ho
    next => cases ho
  next => cases ho
/-- a number goes into a field of kind ty -/
theorem kv_put0 {f c ci k t : Nat} {v : Int32} {r : List kb_v} {fs : List (Option (Option Nat))} {ty : FieldType} (C : kb_C x y) (hi : kb_ft y pc = some (.putfield f)) (hf : kb_fl y f = some (ci, k, t)) (hc : kb_cel c = some (.inr (ci, fs))) (hk : fs[k]? = some none)
    (hty : ∀ N T n, kb_cl[ci]? = some (N, T, n) → (T k).2.2.2 = false ∧ parseFieldDescriptor (T k).2.2.1 = some ty) (hn : narrow ty (.int v) = .int v) (hft : fits ty (.int v) = true)
    (kk : kb_V x (y, pc + 3, lv, r, kb_up M c k v)) : kb_V x (y, pc, lv, .inl v :: .inr (some c) :: r, M) := by
  obtain ⟨N, T, n, h1, h2, h3, h4, -⟩ := kb_flok hf
  obtain ⟨h5, h6⟩ := hty N T n h1
  obtain ⟨⟨ty0, h7⟩, h8⟩ := kb_clok h1
  have hkl : k < fs.length := (List.getElem?_eq_some_iff.mp hk).1
  intro ls H locs hl hP hS
  refine va_put C.1 C.2.1 C.2.2.2.2.1 (fun w hw => List.mem_cons_of_mem _ (h3 w hw)) ty0 h7 h8 C.2.2.2.1 C.2.2.2.2.2.1 hP (kb_wD C.2.2.2.2.2.2.2.2) hS c (by rw [kb_w_at (kb_celO hc), kb_ce_o hc]) h1 k h2 (kb_hw C h4) (fun _ h9 => h9) h5 h6 hn hft (by rw [kb_fv_len]; exact hkl) (kb_dec hi) (fun H1 locs1 hP1 _ hS1 => kk ls H1 locs1 hl ?_ hS1)
  have hP1 : va_P (kx_D x) kb_cl ((kb_w (kx_ad x) (kx_cA x) M).set c (kx_ad x c, .inr (ci, (kb_fv (kx_ad x) (M c) 0 fs).set k (.int v)))) H1 := hP1
  rw [kb_fv_set fs 0 k hk, Nat.zero_add, ← kb_ce_o (row := upd (M c) k v) hc, kb_w_set] at hP1
  exact hP1
theorem kv_put {f : Nat} (C : kb_C x y) (hi : kb_ft y pc = some (.putfield f)) (ho : kb_pf f y pc lv st M = some o) (K : kb_af x y o) : kb_V x (y, pc, lv, st, M) := by
  unfold kb_pf at ho
  split at ho
  next v c r =>
    split at ho
    next ci k t hf =>
      split at ho
      next cj fs hc =>
        obtain ⟨N, T, n, h1, -, -, -, h5, h6⟩ := kb_flok hf
        split at ho
        next hb hk =>
          have e := Nat.eq_of_beq_eq_true hb
          subst e
          refine kv_put0 (ty := .int) C hi hf hc hk (fun N1 T1 n1 g => ?_) rfl rfl (kb_k1 ho K)
          cases h1.symm.trans g
          exact h5 rfl
        next hb hk =>
          have e := Nat.eq_of_beq_eq_true hb
          subst e
          obtain ⟨g1, g2⟩ := kb_k5 ho K
          refine kv_put0 (ty := .boolean) C hi hf hc hk (fun N1 T1 n1 g => ?_) (kb_nar (kb_01 g1)).2.1 (kb_nar (kb_01 g1)).2.2 g2
          cases h1.symm.trans g
          exact h6 rfl
        next => cases ho
      next => cases ho
    next => cases ho
  next => cases ho
theorem kv_ret (C : kb_C x y) : (∀ (_ : kb_ft y pc = some .ireturn) (_ : kb_re y st M = some o) (_ : kb_af x y o), kb_V x (y, pc, lv, st, M)) ∧ (∀ (_ : kb_ft y pc = some .areturn) (_ : kb_ra y st M = some o) (_ : kb_af x y o), kb_V x (y, pc, lv, st, M)) ∧ (∀ (_ : kb_ft y pc = some .return_) (_ : kb_rv y st M = some o) (_ : kb_af x y o), kb_V x (y, pc, lv, st, M)) := by
  have hr := C.2.2.2.2.2.2.1
  have hlocks : (kx_t x).locks = false := C.2.2.2.2.2.2.2.1
  have hK := C.2.2.2.2.2.1
  refine ⟨fun hi ho K => ?_, fun hi ho K => ?_, fun hi ho K => ?_⟩
  · unfold kb_re at ho
    split at ho
    next v ht =>
      obtain ⟨-, h2⟩ := kb_k2 ho K
      exact fun ls H locs hl hP hS => W.iret C.1 C.2.1 (by rw [hr]; exact ht) (fun t ht hW => ⟨⟨(some (.inl v), M), rfl, h2, by rw [ht]; exact hP, va_K.moved hW.alike hK⟩, hS.F ht⟩) hS.2.2 (kb_dec hi) hlocks
    next v ht =>
      obtain ⟨h1, h2⟩ := kb_k2 ho K
      exact fun ls H locs hl hP hS => W.zret (ty := .boolean) C.1 C.2.1 (by rw [hr]; exact ht) (kb_nar (kb_01 h1)).2.1 (fun t ht hW => ⟨⟨(some (.inl v), M), rfl, h2, by rw [ht]; exact hP, va_K.moved hW.alike hK⟩, hS.F ht⟩) hS.2.2 (kb_dec hi) hlocks
    next => cases ho
  · unfold kb_ra at ho
    split at ho
    next n v ht =>
      obtain ⟨-, h2⟩ := kb_k2 ho K
      exact fun ls H locs hl hP hS => W.aret (v := kb_tv (kx_ad x) (.inr v)) C.1 C.2.1 (by rw [hr]; exact ht) (Or.inl ⟨n, rfl⟩) (by cases v with | none => exact Or.inl rfl | some a => exact Or.inr ⟨_, rfl⟩) (fun t ht hW => ⟨⟨(some (.inr v), M), rfl, h2, by rw [ht]; exact hP, va_K.moved hW.alike hK⟩, hS.F ht⟩) hS.2.2 (kb_dec hi) hlocks
    next => cases ho
  · unfold kb_rv at ho
    split at ho
    next ht =>
      obtain ⟨-, h2⟩ := kb_k2 ho K
      exact fun ls H locs hl hP hS => W.vret C.1 C.2.1 (by rw [hr]; exact ht) (fun t ht hW => ⟨⟨(none, M), rfl, h2, by rw [ht]; exact hP, va_K.moved hW.alike hK⟩, hS.F ht⟩) hS.2.2 (kb_dec hi) hlocks
    next => cases ho
theorem kb_ok_d {y z : Nat} {r : List kb_v} (h : kb_ok y z r = true) : (kb_fr z + 1 ≤ kb_fr y ∧ 8 + (kb_mL z + 11) + kb_lo z ≤ kb_lo y) ∧ r.length ≤ 8 := by
  unfold kb_ok at h
  simp only [Bool.and_eq_true] at h
  exact ⟨⟨Nat.le_of_ble_eq_true h.1.1, Nat.le_of_ble_eq_true h.1.2⟩, Nat.le_of_ble_eq_true h.2⟩
/-- behind a call -/
theorem kb_behind {t : kb_T} {r : kb_R} (h : kb_V x (kb_pu (y, t) r)) : ∀ (ls : Array Slot) (H : Heap) (locs : List Loc), kb_lh (kx_ad x) ls (kb_mL y) t.2.1 → va_P (kx_D x) kb_cl (kb_w (kx_ad x) (kx_cA x) r.2) H → va_S (kb_A (kx_ad x)) (kx_s x).heap H locs →
    W (kx_p x) (kx_l x) (kx_e x) (kb_rm y) (kx_s x) (kx_m x) (kx_a x) (kx_b x) (kx_t x) (kx_c x) H locs 0 0 (MQ (kx_b x) (kb_Q (kx_D x) (kx_ad x) (kx_cA x) (kx_po x)) (kx_a x) (kx_s x) 0 0 (kb_A (kx_ad x))) (F0 (kx_m x) t.1 ls ((r.1.map (kb_tv (kx_ad x))).toList ++ t.2.2.1.map (kb_tv (kx_ad x)))) := by
  obtain ⟨v, M1⟩ := r
  intro ls H locs hl hP hS
  cases v with
  | none => exact h ls H locs hl hP hS
  | some v => exact h ls H locs hl hP hS
theorem kv_virt {f : Nat} (C : kb_C x y) (hi : kb_ft y pc = some (.invokevirtual f)) (ho : kb_iv f y pc lv st M = some o) (K : kb_af x y o) : kb_V x (y, pc, lv, st, M) := by
  unfold kb_iv at ho
  split at ho
  next z hz =>
    split at ho
    next c r hd =>
      split at ho
      next cj fs hc =>
        split at ho
        next hb hok =>
          have e := Nat.eq_of_beq_eq_true hb
          subst e
          cases ho
          obtain ⟨hlk, hin, hse, hini, hcode, hmh, hvh, hpar, hpl, hml, T, n, hcl⟩ := kb_caok hz
          obtain ⟨r0, hM, hV⟩ := K hpl (by
            have h1 : (List.take (kb_np z) st).length ≤ kb_np z := by rw [List.length_take]; exact Nat.min_le_left _ _
            rw [List.length_cons, List.length_reverse]
            omega)
          obtain ⟨hroom, hlen⟩ := kb_ok_d hok
          intro ls H locs hl hP hS
          have hn : (List.map (kb_tv (kx_ad x)) (List.take (kb_np z) st).reverse).length = kb_np z := by
            have h1 := congrArg List.length hd
            simp only [List.length_drop, List.length_cons] at h1
            simp only [List.length_map, List.length_reverse, List.length_take]
            omega
          refine kb_callg (va_runV (As := (List.take (kb_np z) st).reverse.map (kb_tv (kx_ad x))) (rest := r.map (kb_tv (kx_ad x))) (C := (kb_nm z).cls) (b := kx_ad x c) (kb_fix C) hM
            (cwV (kb_np z) C.2.2.2.2.1 ?_ rfl rfl rfl ⟨rfl, hmh, hvh, hpar⟩ hroom) ⟨kb_blind, va_recv C.2.2.2.2.2.1 hP hcl (by rw [kb_w_at (kb_celO hc), kb_ce_o hc]), fun U hU hW => ⟨rfl, by rw [hU]; exact hP, va_K.moved hW.alike C.2.2.2.2.2.1⟩⟩ rfl hn hl.1 ?_ (lv_room (by rw [kb_cats]; exact hlen)) (kb_dec hi) ⟨Nat.le_refl _, Nat.le_refl _⟩) hS (fun q h => h) (fun q h => h) (fun r1 H1 locs1 hr1 hP1 hS1 => ?_)
          · intro w hw
            rcases List.mem_append.mp hw with hw | hw
            · rcases List.mem_cons.mp hw with rfl | hw
              · exact kb_all_good hlk
              rcases List.mem_cons.mp hw with rfl | hw
              · exact kb_all_good hin
              rcases List.mem_cons.mp hw with rfl | hw
              · exact kb_all_good hse
              rcases List.mem_cons.mp hw with rfl | hw
              · exact kb_all_good hini
              · cases hw
            · exact kb_wo_good hcode w hw
          · show List.map (kb_tv (kx_ad x)) st = _
            rw [← List.map_reverse, List.reverse_reverse]
            conv => lhs; rw [← List.take_append_drop (kb_np z) st, hd]
            rw [List.map_append]
            rfl
          · subst hr1
            exact kb_behind hV ls H1 locs1 hl hP1 hS1
        next => cases ho
      next => cases ho
    next => cases ho
  next => cases ho
theorem kv_stat0 {f z : Nat} (C : kb_C x y) (hi : kb_ft y pc = some (.invokestatic f)) (hz : kb_cs y f = some (.inl z)) (ho : kb_cs0 z y pc lv st M = some o) (K : kb_af x y o) : kb_V x (y, pc, lv, st, M) := by
  unfold kb_cs0 at ho
  split at ho
  next hb hok =>
    cases ho
    obtain ⟨hlk, hst, hcl, hini, hcode, hmh, hvh, hpar, hpl, hml⟩ := kb_csok hz
    obtain ⟨r0, hM, hV⟩ := K hpl (by
      have h1 : (List.take (kb_np z) st).length ≤ kb_np z := by rw [List.length_take]; exact Nat.min_le_left _ _
      rw [List.length_reverse]
      omega)
    obtain ⟨hroom, hlen⟩ := kb_ok_d hok
    intro ls H locs hl hP hS
    have hn : (List.map (kb_tv (kx_ad x)) (List.take (kb_np z) st).reverse).length = kb_np z := by
      have h1 := Nat.le_of_ble_eq_true hb
      simp only [List.length_map, List.length_reverse, List.length_take]
      omega
    refine kb_callg (va_runS (As := (List.take (kb_np z) st).reverse.map (kb_tv (kx_ad x))) (rest := (st.drop (kb_np z)).map (kb_tv (kx_ad x))) (kb_fix C) hM
      (cwS (kb_np z) C.2.2.2.2.1 ?_ rfl rfl rfl ⟨hcl, hmh, hvh, hpar⟩ hroom) ⟨kb_blind, fun U hU hW => ⟨rfl, by rw [hU]; exact hP, va_K.moved hW.alike C.2.2.2.2.2.1⟩⟩ rfl hn hl.1 ?_ (lv_room (by rw [kb_cats]; exact hlen)) (kb_dec hi) ⟨Nat.le_refl _, Nat.le_refl _⟩) hS (fun q h => h) (fun q h => h) (fun r1 H1 locs1 hr1 hP1 hS1 => ?_)
    · intro w hw
      rcases List.mem_append.mp hw with hw | hw
      · rcases List.mem_cons.mp hw with rfl | hw
        · exact kb_all_good hlk
        rcases List.mem_cons.mp hw with rfl | hw
        · exact kb_all_good hst
        rcases List.mem_cons.mp hw with rfl | hw
        · exact kb_all_good (by rw [← hcl]; exact hini)
        · cases hw
      · exact kb_wo_good hcode w hw
    · show List.map (kb_tv (kx_ad x)) st = _
      rw [← List.map_reverse, List.reverse_reverse, ← List.map_append, List.take_append_drop]
    · subst hr1
      exact kb_behind hV ls H1 locs1 hl hP1 hS1
  next => cases ho
theorem ks_mi (ho : kb_mi y pc lv st M = some o) (K : kb_af x y o) : ∃ (a b : Int32) (r : List kb_v), st = .inl b :: .inl a :: r ∧ kb_V x (y, pc + 3, lv, .inl (if b < a then b else a) :: r, M) := by
  unfold kb_mi at ho
  split at ho
  next b a r => exact ⟨a, b, r, rfl, kb_k1 ho K⟩
  next => cases ho
theorem ks_mx (ho : kb_mx y pc lv st M = some o) (K : kb_af x y o) : ∃ (a b : Int32) (r : List kb_v), st = .inl b :: .inl a :: r ∧ kb_V x (y, pc + 3, lv, .inl (if a < b then b else a) :: r, M) := by
  unfold kb_mx at ho
  split at ho
  next b a r => exact ⟨a, b, r, rfl, kb_k1 ho K⟩
  next => cases ho
theorem ks_cp (ho : kb_cp y pc lv st M = some o) (K : kb_af x y o) : ∃ (n dp sp : Int32) (d a : Nat) (r : List kb_v) (n0 n1 : Nat) (rs0 rs1 : List (Option Nat)), st = .inl n :: .inl dp :: .inr (some d) :: .inl sp :: .inr (some a) :: r ∧ kb_cel a = some (.inl (0, n0, rs0)) ∧ kb_cel d = some (.inl (0, n1, rs1)) ∧ kb_cpo sp dp n n0 n1 = true ∧ kb_V x (y, pc + 3, lv, r, kb_ro M d (va_cpy (M a) (M d) sp.toNatClampNeg dp.toNatClampNeg n.toNatClampNeg)) := by
  unfold kb_cp at ho
  split at ho
  next n dp d sp a r =>
    split at ho
    next t0 n0 rs0 t1 n1 rs1 hc0 hc1 =>
      split at ho
      next e0 e1 =>
        have e0 := Nat.eq_of_beq_eq_true e0
        have e1 := Nat.eq_of_beq_eq_true e1
        subst e0
        subst e1
        obtain ⟨hcp, k⟩ := kb_k5 ho K
        exact ⟨n, dp, sp, d, a, r, n0, n1, rs0, rs1, rfl, hc0, hc1, hcp, k⟩
      next => cases ho
    next => cases ho
  next => cases ho
theorem kb_3 {a b c : Bool} (h : (a && b && c) = true) : a = true ∧ b = true ∧ c = true := by
  cases a <;> cases b <;> cases c <;> simp at h ⊢
theorem kv_stat {f : Nat} (C : kb_C x y) (hi : kb_ft y pc = some (.invokestatic f)) (ho : kb_is f y pc lv st M = some o) (K : kb_af x y o) : kb_V x (y, pc, lv, st, M) := by
  unfold kb_is at ho
  split at ho
  next z hz => exact kv_stat0 C hi hz ho K
  next t hz =>
    obtain ⟨h0, h1, h2⟩ := kb_csl hz
    split at ho
    next hb =>
      obtain ⟨b1, b2, b3⟩ := kb_3 hb
      have b1 := Nat.le_of_ble_eq_true b1
      have b2 := Nat.le_of_ble_eq_true b2
      have b3 := Nat.le_of_ble_eq_true b3
      obtain ⟨g1, g2, g3, g4⟩ := h0 rfl
      obtain ⟨a, b, r, e, k⟩ := ks_mi ho K
      subst e
      have hr : r.length + 13 ≤ kb_lo y := by simp only [List.length_cons] at b3; omega
      exact fun ls H locs hl hP hS => va_mmin C.1 C.2.1 (by rw [hl.1]; exact C.2.2.1) C.2.2.2.1 (kb_hw C g1) (kb_hw C g2) (kb_hw C g3) (kb_hw C g4) b1 (by rw [kb_cats]; exact hr) (Nat.zero_le _) (Nat.zero_le _) (kb_dec hi) (k ls H locs hl hP hS)
    next hb =>
      obtain ⟨b1, b2, b3⟩ := kb_3 hb
      have b1 := Nat.le_of_ble_eq_true b1
      have b2 := Nat.le_of_ble_eq_true b2
      have b3 := Nat.le_of_ble_eq_true b3
      obtain ⟨g1, g2, g3, g4⟩ := h1 rfl
      obtain ⟨a, b, r, e, k⟩ := ks_mx ho K
      subst e
      have hr : r.length + 13 ≤ kb_lo y := by simp only [List.length_cons] at b3; omega
      exact fun ls H locs hl hP hS => va_mmax C.1 C.2.1 (by rw [hl.1]; exact C.2.2.1) C.2.2.2.1 (kb_hw C g1) (kb_hw C g2) (kb_hw C g3) (kb_hw C g4) b1 (by rw [kb_cats]; exact hr) (Nat.zero_le _) (Nat.zero_le _) (kb_dec hi) (k ls H locs hl hP hS)
    next hb =>
      obtain ⟨b1, b2, b3⟩ := kb_3 hb
      have b1 := Nat.le_of_ble_eq_true b1
      have b2 := Nat.le_of_ble_eq_true b2
      have b3 := Nat.le_of_ble_eq_true b3
      obtain ⟨g1, g2, g3, g4⟩ := h2 rfl
      obtain ⟨n, dp, sp, d, a, r, n0, n1, rs0, rs1, e, hc0, hc1, hcp, k⟩ := ks_cp ho K
      subst e
      unfold kb_cpo at hcp
      simp only [Bool.and_eq_true, Bool.not_eq_true', decide_eq_false_iff_not] at hcp
      obtain ⟨⟨⟨⟨c1, c2⟩, c3⟩, c4⟩, c5⟩ := hcp
      have hr : r.length + (nativeFrameWords "java/lang/System" "arraycopy" 5 + 11) ≤ kb_lo y := by
        have hw : nativeFrameWords "java/lang/System" "arraycopy" 5 = 7 := by decide +kernel
        rw [hw]
        simp only [List.length_cons] at b3
        omega
      intro ls H locs hl hP hS
      refine va_copyi C.1 C.2.1 (by rw [hl.1]; exact C.2.2.1) C.2.2.2.1 (kb_hw C g1) (kb_hw C g2) (kb_hw C g3) (kb_hw C g4) C.2.2.2.2.2.1 hP (kb_wD C.2.2.2.2.2.2.2.2) hS a d 0 0 (ty := .int) (by rw [kb_w_at (kb_celA hc0).1, kb_ce_a hc0 rfl]) (by rw [kb_w_at (kb_celA hc1).1, kb_ce_a hc1 rfl]) rfl rfl rfl c1 c2 c3 (Nat.le_of_ble_eq_true c4) (Nat.le_of_ble_eq_true c5) (fun _ _ => rfl) b1 (by rw [kb_cats]; exact hr) (kb_dec hi) (fun H1 locs1 hP1 _ hS1 => k ls H1 locs1 hl ?_ hS1)
      rw [← kb_ce_a (row := va_cpy (M a) (M d) sp.toNatClampNeg dp.toNatClampNeg n.toNatClampNeg) hc1 rfl, kb_w_set] at hP1
      exact hP1
    next => cases ho
  next => cases ho
set_option maxHeartbeats 4000000 in
/-- one step -/
theorem kb_sim {i : Jvm.ClassFile.Instr} (C : kb_C x y) (hi : kb_ft y pc = some i) (ho : kb_st i y pc lv st M = some o) (K : kb_af x y o) : kb_V x (y, pc, lv, st, M) := by
  cases i
  all_goals try exact absurd (show (none : Option kb_O) = some o from ho) (by simp)
  case iconst n => exact fun ls H locs hl hP hS => lv_iconst C.1 C.2.1 (kb_dec hi) rfl (kb_k1 ho K ls H locs hl hP hS)
  case bipush n => exact fun ls H locs hl hP hS => lv_bipush C.1 C.2.1 (kb_dec hi) rfl (kb_k1 ho K ls H locs hl hP hS)
  case sipush n => exact fun ls H locs hl hP hS => lv_sipush C.1 C.2.1 (kb_dec hi) rfl (kb_k1 ho K ls H locs hl hP hS)
  case ldc n =>
    have ho : kb_lc n y pc lv st M = some o := ho
    unfold kb_lc at ho
    split at ho
    next v hv => exact fun ls H locs hl hP hS => lv_ldc C.1 C.2.1 C.2.2.2.1 (kb_hw C (kb_kcok hv)) (kb_dec hi) (kb_k1 ho K ls H locs hl hP hS)
    next => cases ho
  case aconst_null => exact fun ls H locs hl hP hS => lv_null C.1 C.2.1 (kb_dec hi) (kb_k1 ho K ls H locs hl hP hS)
  case iload_n k =>
    obtain ⟨v, hv, h⟩ := ks_li (k := k.val) ho K
    exact fun ls H locs hl hP hS => lv_iload_n C.1 C.2.1 (kb_dec hi) rfl (hl.2.2.2 k.val _ hv) (h ls H locs hl hP hS)
  case iload k =>
    obtain ⟨v, hv, h⟩ := ks_li (k := k) ho K
    exact fun ls H locs hl hP hS => lv_iload C.1 C.2.1 (kb_dec hi) (hl.2.2.2 k _ hv) (h ls H locs hl hP hS)
  case aload_n k =>
    obtain ⟨v, hv, h⟩ := ks_la (k := k.val) ho K
    exact kv_ldan C hi hv h
  case aload k =>
    obtain ⟨v, hv, h⟩ := ks_la (k := k) ho K
    exact kv_lda C hi hv h
  case istore_n k =>
    obtain ⟨v, r, rfl, h1, h⟩ := ks_si (k := k.val) ho K
    exact kv_stin C hi h1 h
  case istore k =>
    obtain ⟨v, r, rfl, h1, h⟩ := ks_si (k := k) ho K
    exact kv_sti C hi h1 h
  case astore_n k =>
    obtain ⟨v, r, rfl, h1, h⟩ := ks_sa (k := k.val) ho K
    exact kv_stan C hi h1 h
  case astore k =>
    obtain ⟨v, r, rfl, h1, h⟩ := ks_sa (k := k) ho K
    exact kv_sta C hi h1 h
  case iinc k n => exact kv_iinc C hi ho K
  case pop => exact (kv_stack C).1 hi ho K
  case dup => exact (kv_stack C).2.1 hi ho K
  case dup2 => exact (kv_stack C).2.2 hi ho K
  case iadd =>
    obtain ⟨a, b, r, rfl, h⟩ := ks_a2 (f := fun a b => a + b) ho K
    exact fun ls H locs hl hP hS => lv_iadd C.1 C.2.1 (kb_dec hi) (h ls H locs hl hP hS)
  case isub =>
    obtain ⟨a, b, r, rfl, h⟩ := ks_a2 (f := fun a b => a - b) ho K
    exact fun ls H locs hl hP hS => lv_isub C.1 C.2.1 (kb_dec hi) (h ls H locs hl hP hS)
  case imul =>
    obtain ⟨a, b, r, rfl, h⟩ := ks_a2 (f := fun a b => a * b) ho K
    exact fun ls H locs hl hP hS => lv_imul C.1 C.2.1 (kb_dec hi) (h ls H locs hl hP hS)
  case idiv =>
    obtain ⟨a, b, r, rfl, h0, h⟩ := ks_d2 (f := fun a b => a / b) ho K
    exact fun ls H locs hl hP hS => lv_idiv C.1 C.2.1 (kb_dec hi) h0 (h ls H locs hl hP hS)
  case irem =>
    obtain ⟨a, b, r, rfl, h0, h⟩ := ks_d2 (f := fun a b => a - a / b * b) ho K
    exact fun ls H locs hl hP hS => lv_irem C.1 C.2.1 (kb_dec hi) h0 (h ls H locs hl hP hS)
  case goto off =>
    obtain ⟨t, ht, h⟩ := ks_gt (off := off) ho K
    exact fun ls H locs hl hP hS => lv_goto C.1 C.2.1 (kb_dec hi) ht (h ls H locs hl hP hS)
  case ifCond cnd off => exact kv_if C hi ho K
  case if_icmp cnd off => exact kv_icmp C hi ho K
  case ifnull off => exact kv_null C hi ho K
  case ifnonnull off => exact kv_nonnull C hi ho K
  case arraylength => exact kv_alen C hi ho K
  case iaload => exact kv_iald C hi ho K
  case baload => exact kv_zald C hi ho K
  case aaload => exact kv_aald C hi ho K
  case iastore => exact kv_iast C hi ho K
  case bastore => exact kv_zast C hi ho K
  case getfield f => exact kv_get C hi ho K
  case putfield f => exact kv_put C hi ho K
  case invokevirtual f => exact kv_virt C hi ho K
  case invokestatic f => exact kv_stat C hi ho K
  case ireturn => exact (kv_ret C).1 hi ho K
  case areturn => exact (kv_ret C).2.1 hi ho K
  case return_ => exact (kv_ret C).2.2 hi ho K
end KS
/-- the locals at a method's entry -/
theorem kb_entry_at (ad : Nat → Nat) : ∀ (a : List kb_v) (i j : Nat) (v : kb_v), (a.map some)[i]? = some (some v) → (j + i, kb_tv ad v) ∈ lv_args j (a.map (kb_tv ad)) := by
  intro a
  induction a with
  | nil => intro i j v h; simp at h
  | cons w a ih =>
    intro i j v h
    have e : lv_args j ((w :: a).map (kb_tv ad)) = (j, kb_tv ad w) :: lv_args (j + 1) (a.map (kb_tv ad)) := by
      show lv_args j (kb_tv ad w :: a.map (kb_tv ad)) = _
      rw [lv_args, kb_tv_cat]
      rfl
    rw [e]
    cases i with
    | zero =>
      have h : some (some w) = some (some v) := h
      cases h
      exact List.mem_cons_self
    | succ i =>
      have h1 := ih i (j + 1) v h
      rw [show j + (i + 1) = j + 1 + i by omega]
      exact List.mem_cons_of_mem _ h1
theorem kb_sl (ad : Nat → Nat) (a : List kb_v) : (lg_sl (a.map (kb_tv ad))).length = a.length := by
  induction a with
  | nil => rfl
  | cons w a ih =>
    unfold lg_sl at ih ⊢
    rw [List.map_cons, List.flatMap_cons, kb_tv_cat, List.length_append, ih]
    simp
    omega
theorem kb_entry {ad : Nat → Nat} {a : List kb_v} {n : Nat} (h : a.length ≤ n) : kb_lh ad ((lg_sl (a.map (kb_tv ad)) ++ List.replicate (n - (lg_sl (a.map (kb_tv ad))).length) Slot.unset).toArray) n (a.map some ++ List.replicate (n - a.length) none) := by
  have h1 := lv_entry (a.map (kb_tv ad)) (n := n) (by rw [kb_sl]; exact h)
  refine ⟨h1.1, by simp; omega, h1.2.1, fun i v hv => ?_⟩
  by_cases hi : i < (a.map some).length
  · rw [List.getElem?_append_left hi] at hv
    have h2 := kb_entry_at ad a i 0 v hv
    rw [Nat.zero_add] at h2
    exact h1.2.2 _ h2
  · rw [List.getElem?_append_right (by omega)] at hv
    have h3 := List.mem_of_getElem? hv
    have h4 := (List.mem_replicate.mp h3).2
    cases h4
/-- a method's contract out of its walk -/
theorem kb_met {l : Launch} {D : va_G} {ad : Nat → Nat} {cA : Nat → ClassId} {po : kb_R → Prop} {z : Nat} {a : List kb_v} {M : kb_M} (hp : plainName (kb_nm z).cls = true) (hinj : kb_inj ad) (hl : a.length ≤ kb_mL z) (h : ∀ x : kb_X, kx_l x = l → kx_D x = D → kx_ad x = ad → kx_cA x = cA → kx_po x = po → kb_C x z → kb_V x (kb_en z a M)) :
    Met l (kb_nm z) (kb_wo z) (kb_rm z) (kb_Pc D ad cA a M) (kb_Q D ad cA po) 0 0 (kb_A ad) := by
  refine Met.ofW (cc := kb_by z) (maxL := kb_mL z) (ret := kb_rt z) hp rfl ?_
  intro p e s m args below meth c s₁ B hml hv
  obtain ⟨rfl, hP, hK⟩ := hv
  have hts := atoms_spec (ws := kb_wo z) B.pre
  have hV := h (p, l, e, s, m, (a.map (kb_tv ad)).toArray, below, meth, c, D, ad, cA, po) rfl rfl rfl rfl rfl ⟨B.exec, B.bytes, hml, findClass_of_methodNamed B.named, hts, hK, B.returns, B.notSynchronized, hinj⟩
  rw [lg_entry_eq]
  exact hV _ s.heap [] (kb_entry hl) hP va_S.rf
/-- a run of the small machine is a run of the machine -/
theorem kb_main : ∀ (n : Nat) (σ : kb_S) (r : kb_R), kb_ex n σ = some r → ∀ x : kb_X, kb_C x σ.1 → kx_po x r → kb_V x σ := by
  intro n
  induction n with
  | zero => intro σ r h; cases h
  | succ n ih =>
    intro σ r h x C hpo
    obtain ⟨y, pc, lv, st, M⟩ := σ
    rw [kb_ex] at h
    cases hs : kb_step (y, pc, lv, st, M) with
    | none => rw [hs] at h; cases h
    | some o =>
      have hs0 := hs
      unfold kb_step at hs
      dsimp only at hs
      cases hi : kb_ft y pc with
      | none => rw [hi] at hs; cases hs
      | some i =>
        rw [hi] at hs
        refine kb_sim C hi hs ?_
        rw [hs0] at h
        rcases o with t | ⟨b, r1⟩ | ⟨z, a, t⟩ | ⟨b, t, t2⟩ | ⟨b, t⟩
        · exact ih (y, t) r h x C hpo
        · cases b
          · cases h
          · have h : some r1 = some r := h
            cases h
            exact ⟨rfl, hpo⟩
        · dsimp only at h
          cases h1 : kb_ex n (kb_en z a t.2.2.2) with
          | none => rw [h1] at h; cases h
          | some r1 =>
            rw [h1] at h
            exact fun g1 g2 => ⟨r1, kb_met g1 C.2.2.2.2.2.2.2.2 g2 (fun x1 e1 e2 e3 e4 e5 C1 => ih (kb_en z a t.2.2.2) r1 h1 x1 C1 (by rw [e5])), ih _ r h x C hpo⟩
        · cases b
          · exact ⟨fun q => (by cases q), fun _ => ih (y, t2) r h x C hpo⟩
          · exact ⟨fun _ => ih (y, t) r h x C hpo, fun q => (by cases q)⟩
        · cases b
          · cases h
          · exact ⟨rfl, ih (y, t) r h x C hpo⟩
/-- the contract of a method that reaches Q -/
theorem kb_sound {l : Launch} {D : va_G} {ad : Nat → Nat} {cA : Nat → ClassId} {Q : kb_R → Prop} {z : Nat} {a : List kb_v} {M : kb_M} (hp : plainName (kb_nm z).cls = true) (hinj : kb_inj ad) (hl : a.length ≤ kb_mL z) (h : kb_E (kb_en z a M) Q) :
    Met l (kb_nm z) (kb_wo z) (kb_rm z) (kb_Pc D ad cA a M) (kb_Q D ad cA Q) 0 0 (kb_A ad) := by
  obtain ⟨n, r, h1, h2⟩ := kb_E_get h
  exact kb_met hp hinj hl (fun x e1 e2 e3 e4 e5 C => kb_main n (kb_en z a M) r h1 x C (by rw [e5]; exact h2))
end
section
/-! the pool: its methods in plain words. A pool is cell c: c + 1 its holders (n of them), c + 2 its words -/
def kp_P (c n : Nat) : Prop := (c = 3 ∧ n = 12) ∨ (c = 6 ∧ n = 24)
/-- how many of the first n are e -/
def kp_c (f : Nat → Int32) (e : Int32) : Nat → Nat
  | 0 => 0
  | n + 1 => kp_c f e n + (if f n = e then 1 else 0)
theorem kp_c_le (f : Nat → Int32) (e : Int32) : ∀ n, kp_c f e n ≤ n := by
  intro n
  induction n with
  | zero => exact Nat.le_refl _
  | succ n ih => unfold kp_c; split <;> omega
theorem kb_E_to {s : kb_S} {X : kb_R} {Q : kb_R → Prop} (h : kb_E s (fun q => q = X)) (k : Q X) : kb_E s Q := kb_E_imp h (fun r hr => by rw [hr]; exact k)
theorem kb_in_nI {j n : Nat} (h : j < n) (hn : n < 2 ^ 31) : kb_in (nI j) n = true := by
  unfold kb_in
  rw [nI_clamp (by omega), decide_eq_false (nI_pos (by omega))]
  cases h1 : Nat.ble n j with
  | false => rfl
  | true => exact absurd (Nat.le_of_ble_eq_true h1) (by omega)
set_option maxRecDepth 100000 in
theorem cp_hasResource {c n : Nat} (hc : kp_P c n) (M : kb_M) {r : Nat} (hr : r < n) : kb_E (kb_en kz_Pool_hasResource [.inr (some c), .inl (nI r)] M) (fun q => q = (some (.inl 1), M)) := by
  rcases hc with ⟨rfl, rfl⟩ | ⟨rfl, rfl⟩
  · refine kb_go 20 [] ?_
    refine And.intro (fun h => ?_) (fun h => ?_)
    · exact absurd (of_decide_eq_true h) (nI_pos (by omega))
    · refine And.intro (fun h2 => ?_) (fun h2 => ?_)
      · exact absurd (of_decide_eq_true h2) (nI_ge (b := 12) (by omega) (by omega))
      · exact And.intro rfl rfl
  · refine kb_go 20 [] ?_
    refine And.intro (fun h => ?_) (fun h => ?_)
    · exact absurd (of_decide_eq_true h) (nI_pos (by omega))
    · refine And.intro (fun h2 => ?_) (fun h2 => ?_)
      · exact absurd (of_decide_eq_true h2) (nI_ge (b := 24) (by omega) (by omega))
      · exact And.intro rfl rfl
set_option maxRecDepth 100000 in
theorem cp_countHeldBy {c n : Nat} (hc : kp_P c n) (M : kb_M) (e : Int32) : kb_E (kb_en kz_Pool_countHeldBy [.inr (some c), .inl e] M) (fun q => q = (some (.inl (nI (kp_c (M (c + 1)) e n))), M)) := by
  have hn : n < 1000 := by rcases hc with ⟨rfl, rfl⟩ | ⟨rfl, rfl⟩ <;> decide
  have loop : ∀ (k i : Nat) (x : Option kb_v), i + k = n → kb_E (kz_Pool_countHeldBy, 14, [some (.inr (some c)), some (.inl e), some (.inl (nI (kp_c (M (c + 1)) e i))), some (.inr (some (c + 1))), some (.inl (nI n)), some (.inl (nI i)), x], [], M) (fun q => q = (some (.inl (nI (kp_c (M (c + 1)) e n))), M)) := by
    intro k
    induction k with
    | zero =>
      intro i x hi
      have hi : i = n := by omega
      subst hi
      refine kb_go 20 [14] ?_
      refine And.intro (fun h => ?_) (fun h => ?_)
      · exact And.intro rfl rfl
      · exact absurd (Int32.le_refl _) (of_decide_eq_false h)
    | succ k ih =>
      intro i x hi
      have hlt : i < n := by omega
      have hcl : (nI i).toNatClampNeg = i := nI_clamp (by omega)
      have hstep : kp_c (M (c + 1)) e (i + 1) = kp_c (M (c + 1)) e i + (if M (c + 1) i = e then 1 else 0) := rfl
      rcases hc with ⟨rfl, rfl⟩ | ⟨rfl, rfl⟩
      all_goals
        refine kb_go 20 [14] ?_
        refine And.intro (fun h => ?_) (fun h => ?_)
        · exact absurd (of_decide_eq_true h) (nI_ge hlt (by omega))
        · refine And.intro (kb_in_nI hlt (by omega)) ?_
          refine And.intro (fun h2 => ?_) (fun h2 => ?_)
          · have h2 := of_decide_eq_true h2
            rw [hcl] at h2
            have h3 := fun x => ih (i + 1) x (by omega)
            rw [hstep, if_neg h2, Nat.add_zero, nI_succ i] at h3
            exact h3 _
          · have h2 := of_decide_eq_false h2
            rw [hcl] at h2
            have h2 := Classical.not_not.mp h2
            have h3 := fun x => ih (i + 1) x (by omega)
            rw [hstep, if_pos h2, nI_succ (kp_c _ _ _), nI_succ i] at h3
            exact h3 _
  have h0 := loop n 0 none (by omega)
  rcases hc with ⟨rfl, rfl⟩ | ⟨rfl, rfl⟩
  · exact kb_go 20 [14] h0
  · exact kb_go 20 [14] h0
set_option maxRecDepth 100000 in
theorem cp_countFree {c n : Nat} (hc : kp_P c n) (M : kb_M) : kb_E (kb_en kz_Pool_countFree [.inr (some c)] M) (fun q => q = (some (.inl (nI (kp_c (M (c + 1)) (-1) n))), M)) := by
  have h := cp_countHeldBy hc M (-1)
  rcases hc with ⟨rfl, rfl⟩ | ⟨rfl, rfl⟩
  · refine kb_go 20 [] ?_
    exact kb_E_to h (And.intro rfl rfl)
  · refine kb_go 20 [] ?_
    exact kb_E_to h (And.intro rfl rfl)
theorem kp_lt {c n : Nat} (hc : kp_P c n) : n < 1000 := by rcases hc with ⟨rfl, rfl⟩ | ⟨rfl, rfl⟩ <;> decide
set_option maxRecDepth 100000 in
/-- the share: a number of the pool's own cell -/
theorem cp_hasFullShare {c n sh : Nat} (hc : kp_P c n) (M : kb_M) (e : Int32) (hs : M c 0 = nI sh) (hsh : sh < 1000) : kb_E (kb_en kz_Pool_hasFullShare [.inr (some c), .inl e] M) (fun q => q = (some (.inl (if sh ≤ kp_c (M (c + 1)) e n then 1 else 0)), M)) := by
  have h := cp_countHeldBy hc M e
  have hl := kp_c_le (M (c + 1)) e n
  have hn := kp_lt hc
  rcases hc with ⟨rfl, rfl⟩ | ⟨rfl, rfl⟩
  all_goals
    refine kb_go 20 [] ?_
    refine kb_E_to h ?_
    refine And.intro (fun h1 => ?_) (fun h1 => ?_)
    · have h1 := of_decide_eq_true h1
      have h1 : nI (kp_c (M (_ + 1)) e _) < M _ 0 := h1
      rw [hs, nI_ltI (by omega) (by omega)] at h1
      rw [if_neg (by omega)]
      exact And.intro rfl rfl
    · have h1 := of_decide_eq_false h1
      have h1 : ¬ nI (kp_c (M (_ + 1)) e _) < M _ 0 := h1
      rw [hs, nI_ltI (by omega) (by omega)] at h1
      rw [if_pos (by omega)]
      exact And.intro rfl rfl
set_option maxRecDepth 100000 in
theorem cp_endBinding {c n : Nat} (hc : kp_P c n) (M : kb_M) {r : Nat} (hr : r < n) : kb_E (kb_en kz_Pool_endBinding [.inr (some c), .inl (nI r)] M) (fun q => q = (none, kb_up M (c + 1) r (-1))) := by
  have hn := kp_lt hc
  have hcl : (nI r).toNatClampNeg = r := nI_clamp (by omega)
  rcases hc with ⟨rfl, rfl⟩ | ⟨rfl, rfl⟩
  all_goals
    refine kb_go 20 [] ?_
    refine And.intro (fun h => ?_) (fun h => ?_)
    · exact absurd (of_decide_eq_true h) (nI_pos (by omega))
    · refine And.intro (fun h2 => ?_) (fun h2 => ?_)
      · exact absurd (of_decide_eq_true h2) (nI_ge hr (by omega))
      · refine And.intro (kb_in_nI hr (by omega)) (And.intro rfl ?_)
        rw [hcl]
        rfl
set_option maxRecDepth 100000 in
theorem cp_hasWord {c n : Nat} (hc : kp_P c n) (M : kb_M) {r : Nat} (hr : r < n) (i : Int32) : kb_E (kb_en kz_Pool_hasWord [.inr (some c), .inl (nI r), .inl i] M) (fun q => q = (some (.inl (if 0 ≤ i ∧ i < 4 then 1 else 0)), M)) := by
  have h := cp_hasResource hc M hr
  rcases hc with ⟨rfl, rfl⟩ | ⟨rfl, rfl⟩
  all_goals
    refine kb_go 20 [] ?_
    refine kb_E_to h ?_
    refine And.intro (fun h1 => absurd h1 (by decide)) (fun _ => ?_)
    refine And.intro (fun h1 => ?_) (fun h1 => ?_)
    · have h1 : i < 0 := of_decide_eq_true h1
      rw [if_neg (fun q => absurd q.1 (Int32.not_le.mpr h1))]
      exact And.intro rfl rfl
    · have h1 : ¬ i < 0 := of_decide_eq_false h1
      refine And.intro (fun h2 => ?_) (fun h2 => ?_)
      · have h2 : 4 ≤ i := of_decide_eq_true h2
        rw [if_neg (fun q => absurd q.2 (Int32.not_lt.mpr h2))]
        exact And.intro rfl rfl
      · have h2 : ¬ 4 ≤ i := of_decide_eq_false h2
        rw [if_pos ⟨Int32.not_lt.mp h1, Int32.not_le.mp h2⟩]
        exact And.intro rfl rfl
theorem kp_ix (r k : Nat) : nI r * Int32.ofInt 4 + nI k = nI (r * 4 + k) := by
  rw [show Int32.ofInt 4 = nI 4 from rfl, pk_mul, nI_add]
theorem kp_in4 {i : Int32} (h : 0 ≤ i ∧ i < 4) : ∃ k : Nat, k < 4 ∧ i = nI k := by
  rcases pk_ix i (n := 4) (by decide) with h1 | h1 | h1
  · exact absurd h.1 (Int32.not_le.mpr h1)
  · exact absurd h.2 (Int32.not_lt.mpr h1)
  · exact h1
set_option maxRecDepth 100000 in
theorem cp_wordAt {c n : Nat} (hc : kp_P c n) (M : kb_M) {r : Nat} (hr : r < n) (i : Int32) : kb_E (kb_en kz_Pool_wordAt [.inr (some c), .inl (nI r), .inl i] M) (fun q => q = (some (.inl (if 0 ≤ i ∧ i < 4 then M (c + 2) (4 * r + i.toNatClampNeg) else 0)), M)) := by
  have h := cp_hasWord hc M hr i
  have hn := kp_lt hc
  by_cases hi : 0 ≤ i ∧ i < 4
  · rw [if_pos hi] at h ⊢
    obtain ⟨k, hk, rfl⟩ := kp_in4 hi
    rw [nI_clamp (by omega)]
    have hx : (nI r * Int32.ofInt 4 + nI k).toNatClampNeg = 4 * r + k := by rw [kp_ix, nI_clamp (by omega)]; omega
    rcases hc with ⟨rfl, rfl⟩ | ⟨rfl, rfl⟩
    all_goals
      refine kb_go 20 [] ?_
      refine kb_E_to h ?_
      refine And.intro (fun h1 => absurd h1 (by decide)) (fun _ => ?_)
      refine And.intro ?_ (And.intro rfl ?_)
      · rw [kp_ix]
        exact kb_in_nI (by omega) (by omega)
      · rw [hx]
  · rw [if_neg hi] at h ⊢
    rcases hc with ⟨rfl, rfl⟩ | ⟨rfl, rfl⟩
    all_goals
      refine kb_go 20 [] ?_
      refine kb_E_to h ?_
      refine And.intro (fun _ => And.intro rfl rfl) (fun h1 => absurd h1 (by decide))
set_option maxRecDepth 100000 in
theorem cp_setWord {c n : Nat} (hc : kp_P c n) (M : kb_M) {r : Nat} (hr : r < n) (i w : Int32) : kb_E (kb_en kz_Pool_setWord [.inr (some c), .inl (nI r), .inl i, .inl w] M) (fun q => q = if 0 ≤ i ∧ i < 4 then (some (.inl 1), kb_up M (c + 2) (4 * r + i.toNatClampNeg) w) else (some (.inl 0), M)) := by
  have h := cp_hasWord hc M hr i
  have hn := kp_lt hc
  by_cases hi : 0 ≤ i ∧ i < 4
  · rw [if_pos hi] at h ⊢
    obtain ⟨k, hk, rfl⟩ := kp_in4 hi
    rw [nI_clamp (by omega)]
    have hx : (nI r * Int32.ofInt 4 + nI k).toNatClampNeg = 4 * r + k := by rw [kp_ix, nI_clamp (by omega)]; omega
    rcases hc with ⟨rfl, rfl⟩ | ⟨rfl, rfl⟩
    all_goals
      refine kb_go 20 [] ?_
      refine kb_E_to h ?_
      refine And.intro (fun _ => ?_) (fun h1 => absurd h1 (by decide))
      refine And.intro ?_ (And.intro rfl ?_)
      · rw [kp_ix]
        exact kb_in_nI (by omega) (by omega)
      · rw [hx]
        rfl
  · rw [if_neg hi] at h ⊢
    rcases hc with ⟨rfl, rfl⟩ | ⟨rfl, rfl⟩
    all_goals
      refine kb_go 20 [] ?_
      refine kb_E_to h ?_
      refine And.intro (fun h1 => absurd h1 (by decide)) (fun _ => And.intro rfl rfl)
/-- four words of cell a from 4 * f on go to cell d from 4 * t on -/
def kp_cp (M : kb_M) (a d f t : Nat) : kb_M := kb_ro M d (va_cpy (M a) (M d) (4 * f) (4 * t) 4)
set_option maxRecDepth 100000 in
theorem cp_takeWordsFrom {c n c1 n1 : Nat} (hc : kp_P c n) (hc1 : kp_P c1 n1) (M : kb_M) {f t : Nat} (hf : f < n1) (ht : t < n) : kb_E (kb_en kz_Pool_takeWordsFrom [.inr (some c), .inr (some c1), .inl (nI f), .inl (nI t)] M) (fun q => q = (none, kp_cp M (c1 + 2) (c + 2) f t)) := by
  have h1 := cp_hasResource hc1 M hf
  have h2 := cp_hasResource hc M ht
  have hn := kp_lt hc
  have hn1 := kp_lt hc1
  have e1 : nI f * Int32.ofInt 4 = nI (4 * f) := by rw [show Int32.ofInt 4 = nI 4 from rfl, pk_mul, Nat.mul_comm]
  have e2 : nI t * Int32.ofInt 4 = nI (4 * t) := by rw [show Int32.ofInt 4 = nI 4 from rfl, pk_mul, Nat.mul_comm]
  have g1 : (nI (4 * f)).toNatClampNeg = 4 * f := nI_clamp (by omega)
  have g2 : (nI (4 * t)).toNatClampNeg = 4 * t := nI_clamp (by omega)
  have hcp : ∀ {a b : Nat}, 4 * f + 4 ≤ a → 4 * t + 4 ≤ b → kb_cpo (nI f * Int32.ofInt 4) (nI t * Int32.ofInt 4) (Int32.ofInt 4) a b = true := by
    intro a b ha hb
    unfold kb_cpo
    rw [e1, e2, g1, g2, decide_eq_false (nI_pos (by omega)), decide_eq_false (nI_pos (by omega)), show (Int32.ofInt 4).toNatClampNeg = 4 from rfl, Nat.ble_eq_true_of_le ha, Nat.ble_eq_true_of_le hb]
    rfl
  rcases hc with ⟨rfl, rfl⟩ | ⟨rfl, rfl⟩ <;> rcases hc1 with ⟨rfl, rfl⟩ | ⟨rfl, rfl⟩
  all_goals
    refine kb_go 30 [] ?_
    refine kb_E_to h1 ?_
    refine And.intro (fun h1 => absurd h1 (by decide)) (fun _ => ?_)
    refine kb_E_to h2 ?_
    refine And.intro (fun h1 => absurd h1 (by decide)) (fun _ => ?_)
    refine And.intro (hcp (by omega) (by omega)) (And.intro rfl ?_)
    rw [e1, e2, g1, g2]
    rfl
theorem kp_zero (M : kb_M) (c i : Nat) : kb_up (kb_up (kb_up (kb_up M c (i * 4 + 0) 0) c (i * 4 + 1) 0) c (i * 4 + 2) 0) c (i * 4 + 3) 0 = kb_ro M c (fun j => if j / 4 = i then 0 else M c j) := by
  funext a j
  by_cases ha : a = c
  · subst ha
    simp only [kb_up, kb_ro, upd, if_true]
    repeat' split
    all_goals first | rfl | omega
  · simp only [kb_up, kb_ro, if_neg ha]
theorem kp_zero2 (M : kb_M) (c1 c i : Nat) (e : Int32) (h : c ≠ c1) : kb_up (kb_up (kb_up (kb_up (kb_up M c1 i e) c (i * 4 + 0) 0) c (i * 4 + 1) 0) c (i * 4 + 2) 0) c (i * 4 + 3) 0 = kb_ro (kb_up M c1 i e) c (fun j => if j / 4 = i then 0 else M c j) := by
  rw [kp_zero]
  have e1 : (kb_up M c1 i e) c = M c := by simp only [kb_up, kb_ro, if_neg h]
  rw [e1]
set_option maxRecDepth 100000 in
set_option maxHeartbeats 4000000 in
theorem cp_bindFreeOne {c n : Nat} (hc : kp_P c n) (M : kb_M) (e : Int32) : kb_E (kb_en kz_Pool_bindFreeOne [.inr (some c), .inl e] M) (fun q => (∃ i, i < n ∧ M (c + 1) i = -1 ∧ q = (some (.inl (nI i)), kb_ro (kb_up M (c + 1) i e) (c + 2) (fun j => if j / 4 = i then 0 else M (c + 2) j))) ∨ ((∀ i, i < n → M (c + 1) i ≠ -1) ∧ q = (some (.inl (-1)), M))) := by
  have hn := kp_lt hc
  have loop : ∀ (k i : Nat) (x : Option kb_v), i + k = n → (∀ j, j < i → M (c + 1) j ≠ -1) → kb_E (kz_Pool_bindFreeOne, 2, [some (.inr (some c)), some (.inl e), some (.inl (nI i)), x], [], M) (fun q => (∃ i, i < n ∧ M (c + 1) i = -1 ∧ q = (some (.inl (nI i)), kb_ro (kb_up M (c + 1) i e) (c + 2) (fun j => if j / 4 = i then 0 else M (c + 2) j))) ∨ ((∀ i, i < n → M (c + 1) i ≠ -1) ∧ q = (some (.inl (-1)), M))) := by
    intro k
    induction k with
    | zero =>
      intro i x hi hj
      have hi : i = n := by omega
      subst hi
      rcases hc with ⟨rfl, rfl⟩ | ⟨rfl, rfl⟩
      all_goals
        refine kb_go 80 [2] ?_
        refine And.intro (fun h => ?_) (fun h => absurd (Int32.le_refl _) (of_decide_eq_false h))
        exact And.intro rfl (Or.inr ⟨hj, rfl⟩)
    | succ k ih =>
      intro i x hi hj
      have hlt : i < n := by omega
      have hcl : (nI i).toNatClampNeg = i := nI_clamp (by omega)
      have hx : ∀ k, k < 4 → (nI i * Int32.ofInt 4 + nI k).toNatClampNeg = i * 4 + k := fun k hk => by rw [kp_ix, nI_clamp (by omega)]
      have hix : ∀ k a, k < 4 → 4 * n ≤ a → a < 5000 → kb_in (nI i * Int32.ofInt 4 + nI k) a = true := fun k a hk ha ha2 => by rw [kp_ix]; exact kb_in_nI (by omega) (by omega)
      rcases hc with ⟨rfl, rfl⟩ | ⟨rfl, rfl⟩
      all_goals
        refine kb_go 80 [2] ?_
        refine And.intro (fun h => absurd (of_decide_eq_true h) (nI_ge hlt (by omega))) (fun _ => ?_)
        refine And.intro (kb_in_nI hlt (by omega)) ?_
        refine And.intro (fun h2 => ?_) (fun h2 => ?_)
        · have h2 := of_decide_eq_true h2
          rw [hcl] at h2
          have h3 := ih (i + 1) x (by omega) (fun j hj2 => by
            by_cases hji : j = i
            · rw [hji]; exact h2
            · exact hj j (by omega))
          rw [nI_succ] at h3
          exact h3
        · have h2 := Classical.not_not.mp (of_decide_eq_false h2)
          rw [hcl] at h2
          refine And.intro (kb_in_nI hlt (by omega)) ?_
          refine And.intro (fun h => absurd h (by decide)) (fun _ => And.intro (hix 0 _ (by decide) (by decide) (by decide)) ?_)
          refine And.intro (fun h => absurd h (by decide)) (fun _ => And.intro (hix 1 _ (by decide) (by decide) (by decide)) ?_)
          refine And.intro (fun h => absurd h (by decide)) (fun _ => And.intro (hix 2 _ (by decide) (by decide) (by decide)) ?_)
          refine And.intro (fun h => absurd h (by decide)) (fun _ => And.intro (hix 3 _ (by decide) (by decide) (by decide)) ?_)
          refine And.intro (fun _ => ?_) (fun h => absurd h (by decide))
          refine And.intro rfl (Or.inl ⟨i, hlt, h2, ?_⟩)
          rw [hcl]
          refine congrArg (Prod.mk _) (Eq.trans ?_ (kp_zero2 M _ _ i e (by decide)))
          rw [← hx 0 (by decide), ← hx 1 (by decide), ← hx 2 (by decide), ← hx 3 (by decide)]
          rfl
  have h0 := loop n 0 none (by omega) (fun j hj => absurd hj (by omega))
  rcases hc with ⟨rfl, rfl⟩ | ⟨rfl, rfl⟩
  · exact kb_go 20 [2] h0
  · exact kb_go 20 [2] h0
end
section
/-! the reference, first half: counts, time, wishes. Row 33: now, stored, loaded; 34 words, 35 size, 36 cached, 37 changed, 38 frames, 39 bound, 40 lost, 41 isBlock, 42 state, 43 deadline, 44 held -/
abbrev kr_bd (R : kb_M) (g : Nat) : Nat := (R 39 g).toNatClampNeg
abbrev kr_sz (R : kb_M) (j : Nat) : Nat := (R 35 j).toNatClampNeg
abbrev kr_fr (R : kb_M) (a : Nat) : Nat := (R 38 a).toNatClampNeg
def kr_ok (R : kb_M) : Prop := (∀ g, g < 2 → R 39 g = nI (kr_bd R g) ∧ kr_bd R g ≤ 60) ∧ (∀ j, j < 12 → R 35 j = nI (kr_sz R j) ∧ kr_sz R j ≤ 24) ∧ (∀ a, a < 2 → R 38 a = nI (kr_fr R a) ∧ kr_fr R a ≤ 3) ∧ (∀ j, j < 120 → R 41 j = 0 ∨ R 41 j = 1) ∧ (∀ j, j < 6 → R 37 j = 0 ∨ R 37 j = 1)
/-- how many of the first n tickets of guest g are live and of kind b -/
def kr_l (R : kb_M) (g : Nat) (b : Int32) : Nat → Nat
  | 0 => 0
  | n + 1 => kr_l R g b n + (if 2 ≤ R 42 (60 * g + n) ∧ R 41 (60 * g + n) = b then 1 else 0)
theorem kr_l_le (R : kb_M) (g : Nat) (b : Int32) : ∀ n, kr_l R g b n ≤ n := by
  intro n
  induction n with
  | zero => exact Nat.le_refl _
  | succ n ih => unfold kr_l; split <;> omega
/-- the blocks of the first n files of application a -/
def kr_b (R : kb_M) (a : Nat) : Nat → Nat
  | 0 => 0
  | n + 1 => kr_b R a n + (kr_sz R (6 * a + n) + 3) / 4
def kr_c (R : kb_M) (e b : Nat) : Nat := if e < 2 then (if b = 0 then kr_fr R e else kr_b R e 6) else kr_l R (e - 2) (nI b) (kr_bd R (e - 2))
def kr_f (R : kb_M) (b : Nat) : Int32 := nI (12 + 12 * b) - nI (kr_c R 0 b) - nI (kr_c R 1 b) - nI (kr_c R 2 b) - nI (kr_c R 3 b)
set_option maxRecDepth 100000 in
theorem cr_within (M : kb_M) (v lo hi : Int32) : kb_E (kb_en kz_Model_within [.inl v, .inl lo, .inl hi] M) (fun q => q = (some (.inl (if lo ≤ v ∧ v ≤ hi then 1 else 0)), M)) := by
  refine kb_go 20 [] ?_
  refine And.intro (fun h => ?_) (fun h => ?_)
  · have h := of_decide_eq_true h
    rw [if_neg (fun q => absurd q.1 (Int32.not_le.mpr h))]
    exact And.intro rfl rfl
  · have h := of_decide_eq_false h
    refine And.intro (fun h2 => ?_) (fun h2 => ?_)
    · have h2 := of_decide_eq_true h2
      rw [if_neg (fun q => absurd q.2 (Int32.not_le.mpr h2))]
      exact And.intro rfl rfl
    · have h2 := of_decide_eq_false h2
      rw [if_pos ⟨Int32.not_lt.mp h, Int32.not_lt.mp h2⟩]
      exact And.intro rfl rfl
theorem kr_g2 {g : Nat} (hg : g < 2) : nI (2 + g) - Int32.ofInt 2 = nI g := by
  match g, hg with
  | 0, _ => rfl
  | 1, _ => rfl
theorem kr_60 {g : Nat} (hg : g < 2) (t : Nat) : (Int8.ofInt 60).toInt32 * nI g + nI t = nI (60 * g + t) := by
  match g, hg with
  | 0, _ => rw [show (Int8.ofInt 60).toInt32 * nI 0 = nI 0 from rfl, nI_add]
  | 1, _ => rw [show (Int8.ofInt 60).toInt32 * nI 1 = nI 60 from rfl, nI_add]
theorem kr_6 {a : Nat} (ha : a < 6) (t : Nat) : (Int8.ofInt 6).toInt32 * nI a + nI t = nI (6 * a + t) := by
  rw [show (Int8.ofInt 6).toInt32 = nI 6 from rfl, pk_mul, nI_add]
set_option maxRecDepth 100000 in
theorem cr_blocksOf {R : kb_M} (hR : kr_ok R) {a : Nat} (ha : a < 2) : kb_E (kb_en kz_Model_blocksOf [.inr (some 33), .inl (nI a)] R) (fun q => q = (some (.inl (nI (kr_b R a 6))), R)) := by
  have loop : ∀ (k i : Nat) (w v : Int32), i + k = 6 → w = nI (kr_b R a i) → v = nI i → kb_E (kz_Model_blocksOf, 4, [some (.inr (some 33)), some (.inl (nI a)), some (.inl w), some (.inl v)], [], R) (fun q => q = (some (.inl (nI (kr_b R a 6))), R)) := by
    intro k
    induction k with
    | zero =>
      intro i w v hi hw hv
      have hi : i = 6 := by omega
      subst hi; subst hv; subst hw
      refine kb_go 40 [4] ?_
      exact And.intro (fun _ => And.intro rfl rfl) (fun h => absurd h (by decide))
    | succ k ih =>
      intro i w v hi hw hv
      subst hv; subst hw
      have hx := kr_6 (a := a) (by omega) i
      have hj := hR.2.1 (6 * a + i) (by omega)
      have hcl : (nI (6 * a + i)).toNatClampNeg = 6 * a + i := nI_clamp (by omega)
      refine kb_go 40 [4] ?_
      refine And.intro (fun h => absurd (of_decide_eq_true h) (nI_ge (b := 6) (by omega) (by omega))) (fun _ => ?_)
      refine And.intro (by rw [hx]; exact kb_in_nI (by omega) (by omega)) ?_
      refine And.intro rfl ?_
      refine ih (i + 1) _ _ (by omega) ?_ (nI_succ i).symm
      rw [hx, hcl, hj.1, show Int32.ofInt 3 = nI 3 from rfl, show Int32.ofInt 4 = nI 4 from rfl, nI_add, pk_div (by omega) (by omega) (by omega), nI_add]
      rfl
  exact kb_go 20 [4] (loop 6 0 _ _ rfl rfl rfl)
set_option maxRecDepth 100000 in
theorem cr_liveOf {R : kb_M} (hR : kr_ok R) {g : Nat} (hg : g < 2) (b : Int32) : kb_E (kb_en kz_Model_liveOf [.inr (some 33), .inl (nI (2 + g)), .inl b] R) (fun q => q = (some (.inl (nI (kr_l R g b (kr_bd R g)))), R)) := by
  obtain ⟨hbd, hle⟩ := hR.1 g hg
  have eg := kr_g2 hg
  have eg2 : (nI g).toNatClampNeg = g := nI_clamp (by omega)
  have loop : ∀ (k i : Nat) (w v : Int32) (x : Option kb_v), i + k = kr_bd R g → w = nI (kr_l R g b i) → v = nI i → kb_E (kz_Model_liveOf, 5, [some (.inr (some 33)), some (.inl (nI (2 + g))), some (.inl b), some (.inl w), some (.inl v), x], [], R) (fun q => q = (some (.inl (nI (kr_l R g b (kr_bd R g)))), R)) := by
    intro k
    induction k with
    | zero =>
      intro i w v x hi hw hv
      subst hv
      refine kb_go 40 [5] ?_
      refine And.intro (by rw [eg]; exact kb_in_nI hg (by omega)) ?_
      refine And.intro (fun h => ?_) (fun h => ?_)
      · rw [show kr_bd R g = i by omega, hw]
        exact And.intro rfl rfl
      · have h := of_decide_eq_false h
        rw [eg, eg2, hbd, show i = kr_bd R g by omega] at h
        exact absurd (Int32.le_refl _) h
    | succ k ih =>
      intro i w v x hi hw hv
      subst hv
      have hx := kr_60 hg i
      have hcl : (nI (60 * g + i)).toNatClampNeg = 60 * g + i := nI_clamp (by omega)
      have hin : kb_in (nI (60 * g + i)) 120 = true := kb_in_nI (by omega) (by omega)
      have hs : kr_l R g b (i + 1) = kr_l R g b i + (if 2 ≤ R 42 (60 * g + i) ∧ R 41 (60 * g + i) = b then 1 else 0) := rfl
      refine kb_go 40 [5] ?_
      refine And.intro (by rw [eg]; exact kb_in_nI hg (by omega)) ?_
      refine And.intro (fun h => ?_) (fun _ => ?_)
      · have h := of_decide_eq_true h
        rw [eg, eg2, hbd, nI_leI (by omega) (by omega)] at h
        omega
      · refine And.intro (by rw [eg, hx]; exact hin) ?_
        refine And.intro (fun h => ?_) (fun h => ?_)
        · have h := of_decide_eq_true h
          rw [eg, hx, hcl] at h
          refine ih (i + 1) _ _ _ (by omega) ?_ (nI_succ i).symm
          rw [hs, if_neg (fun q => absurd q.1 (Int32.not_le.mpr h)), Nat.add_zero]
          exact hw
        · have h := of_decide_eq_false h
          rw [eg, hx, hcl] at h
          refine And.intro (by rw [eg, hx]; exact hin) ?_
          refine And.intro (fun h2 => ?_) (fun h2 => ?_)
          · have h2 := of_decide_eq_true h2
            rw [eg, hx, hcl] at h2
            refine ih (i + 1) _ _ _ (by omega) ?_ (nI_succ i).symm
            rw [hs, if_neg (fun q => h2 q.2), Nat.add_zero]
            exact hw
          · have h2 := Classical.not_not.mp (of_decide_eq_false h2)
            rw [eg, hx, hcl] at h2
            refine ih (i + 1) _ _ _ (by omega) ?_ (nI_succ i).symm
            rw [hs, if_pos ⟨Int32.not_lt.mp h, h2⟩, nI_succ, ← hw]
            rfl
  exact kb_go 20 [5] (loop (kr_bd R g) 0 _ _ _ (by omega) rfl rfl)
set_option maxRecDepth 100000 in
theorem cr_count {R : kb_M} (hR : kr_ok R) {e b : Nat} (he : e < 4) (hb : b < 2) : kb_E (kb_en kz_Model_count [.inr (some 33), .inl (nI e), .inl (nI b)] R) (fun q => q = (some (.inl (nI (kr_c R e b))), R)) := by
  refine kb_go 40 [] ?_
  refine And.intro (fun h => ?_) (fun h => ?_)
  · have h := of_decide_eq_true h
    have h : nI e < nI 2 := h
    rw [nI_ltI (by omega) (by omega)] at h
    unfold kr_c
    rw [if_pos h]
    match b, hb with
    | 0, _ =>
      refine And.intro (fun _ => ?_) (fun h => absurd h (by decide))
      refine And.intro (kb_in_nI h (by omega)) (And.intro rfl ?_)
      rw [nI_clamp (by omega), (hR.2.2.1 e h).1]
      rfl
    | 1, _ =>
      refine And.intro (fun h => absurd h (by decide)) (fun _ => ?_)
      exact kb_E_to (cr_blocksOf hR h) (And.intro rfl rfl)
  · have h := of_decide_eq_false h
    have h : ¬ nI e < nI 2 := h
    rw [nI_ltI (by omega) (by omega)] at h
    unfold kr_c
    rw [if_neg h]
    have h2 := cr_liveOf hR (g := e - 2) (by omega) (nI b)
    rw [show 2 + (e - 2) = e by omega] at h2
    exact kb_E_to h2 (And.intro rfl rfl)
set_option maxRecDepth 100000 in
theorem cr_free {R : kb_M} (hR : kr_ok R) {b : Nat} (hb : b < 2) : kb_E (kb_en kz_Model_free [.inr (some 33), .inl (nI b)] R) (fun q => q = (some (.inl (kr_f R b)), R)) := by
  have h0 := cr_count hR (e := 0) (by omega) hb
  have h1 := cr_count hR (e := 1) (by omega) hb
  have h2 := cr_count hR (e := 2) (by omega) hb
  have h3 := cr_count hR (e := 3) (by omega) hb
  have main : ∀ v : Int32, v = nI (12 + 12 * b) → kb_E (kz_Model_free, 14, [some (.inr (some 33)), some (.inl (nI b)), some (.inl v), some (.inl 0)], [], R) (fun q => q = (some (.inl (kr_f R b)), R)) := by
    intro v hv
    subst hv
    refine kb_go 60 [] ?_
    refine And.intro (fun h => absurd h (by decide)) (fun _ => ?_)
    refine kb_E_to h0 ?_
    refine And.intro (fun h => absurd h (by decide)) (fun _ => ?_)
    refine kb_E_to h1 ?_
    refine And.intro (fun h => absurd h (by decide)) (fun _ => ?_)
    refine kb_E_to h2 ?_
    refine And.intro (fun h => absurd h (by decide)) (fun _ => ?_)
    refine kb_E_to h3 ?_
    refine And.intro (fun _ => ?_) (fun h => absurd h (by decide))
    exact And.intro rfl rfl
  refine kb_go 20 [14] ?_
  match b, hb with
  | 0, _ => exact And.intro (fun _ => main _ rfl) (fun h => absurd h (by decide))
  | 1, _ => exact And.intro (fun h => absurd h (by decide)) (fun _ => main _ rfl)
end
section
/-! the reference: time, wishes, claims -/
theorem kb_ro_at (M : kb_M) (k : Nat) (r : Nat → Int32) : kb_ro M k r k = r := by simp [kb_ro]
theorem kb_ro_ne (M : kb_M) {k j : Nat} (r : Nat → Int32) (h : j ≠ k) : kb_ro M k r j = M j := by simp [kb_ro, h]
theorem kb_up_ne (M : kb_M) {k j : Nat} (i : Nat) (x : Int32) (h : j ≠ k) : kb_up M k i x j = M j := by simp [kb_up, kb_ro, h]
theorem kb_up_at (M : kb_M) (k i : Nat) (x : Int32) : kb_up M k i x k = upd (M k) i x := by simp [kb_up, kb_ro]
/-- how many of the first n tickets of guest g are due at time t -/
def kr_k (R : kb_M) (t : Int32) (g : Nat) : Nat → Nat
  | 0 => 0
  | n + 1 => kr_k R t g n + (if R 42 (60 * g + n) = 3 ∧ R 43 (60 * g + n) ≤ t then 1 else 0)
/-- they are taken -/
def kr_mg (R : kb_M) (t : Int32) (g n : Nat) : kb_M := kb_ro (kb_ro R 42 (fun j => if 60 * g ≤ j ∧ j < 60 * g + n ∧ R 42 j = 3 ∧ R 43 j ≤ t then 1 else R 42 j)) 40 (upd (R 40) g (R 40 g + nI (kr_k R t g n)))
theorem kr_mg_0 (R : kb_M) (t : Int32) (g : Nat) : kr_mg R t g 0 = R := by
  funext a j
  unfold kr_mg kb_ro upd
  try dsimp only
  by_cases h : a = 40
  · rw [if_pos h, h]
    by_cases hj : j = g
    · rw [if_pos hj, hj, show kr_k R t g 0 = 0 from rfl, nI_0, Int32.add_zero]
    · rw [if_neg hj]
  · rw [if_neg h]
    by_cases h2 : a = 42
    · rw [if_pos h2, if_neg (by omega), h2]
    · rw [if_neg h2]
theorem kr_mg_no {R : kb_M} {t : Int32} {g n : Nat} (h : ¬ (R 42 (60 * g + n) = 3 ∧ R 43 (60 * g + n) ≤ t)) : kr_mg R t g (n + 1) = kr_mg R t g n := by
  funext a j
  unfold kr_mg kb_ro upd
  try dsimp only
  rw [show kr_k R t g (n + 1) = kr_k R t g n from by show _ + _ = _; rw [if_neg h]; rfl]
  by_cases h1 : a = 40
  · rw [if_pos h1, if_pos h1]
  · rw [if_neg h1, if_neg h1]
    by_cases h2 : a = 42
    · rw [if_pos h2, if_pos h2]
      by_cases hj : j = 60 * g + n
      · rw [if_neg (fun q => h (by rw [← hj]; exact q.2.2)), if_neg (by omega)]
      · by_cases h3 : 60 * g ≤ j ∧ j < 60 * g + n ∧ R 42 j = 3 ∧ R 43 j ≤ t
        · rw [if_pos ⟨h3.1, by omega, h3.2.2⟩, if_pos h3]
        · rw [if_neg (fun q => h3 ⟨q.1, by omega, q.2.2⟩), if_neg h3]
    · rw [if_neg h2, if_neg h2]
theorem kr_mg_yes {R : kb_M} {t : Int32} {g n : Nat} (h : R 42 (60 * g + n) = 3 ∧ R 43 (60 * g + n) ≤ t) : kr_mg R t g (n + 1) = kb_up (kb_up (kr_mg R t g n) 42 (60 * g + n) 1) 40 g ((kr_mg R t g n) 40 g + 1) := by
  have hk : kr_k R t g (n + 1) = kr_k R t g n + 1 := by show _ + _ = _; rw [if_pos h]
  funext a j
  by_cases h1 : a = 40
  · subst h1
    rw [kb_up_at, kb_up_ne _ _ _ (by decide)]
    unfold kr_mg
    rw [kb_ro_at, kb_ro_at]
    unfold upd
    by_cases hj : j = g
    · rw [if_pos hj, if_pos hj, if_pos rfl, hk, nI_succ, Int32.add_assoc]
    · rw [if_neg hj, if_neg hj, if_neg hj]
  · rw [kb_up_ne _ _ _ h1]
    by_cases h2 : a = 42
    · subst h2
      rw [kb_up_at]
      unfold kr_mg
      rw [kb_ro_ne _ _ (by decide), kb_ro_at, kb_ro_ne _ _ (by decide), kb_ro_at]
      unfold upd
      by_cases hj : j = 60 * g + n
      · rw [if_pos hj, hj, if_pos ⟨by omega, by omega, h⟩]
      · rw [if_neg hj]
        try dsimp only
        by_cases h3 : 60 * g ≤ j ∧ j < 60 * g + n ∧ R 42 j = 3 ∧ R 43 j ≤ t
        · rw [if_pos ⟨h3.1, by omega, h3.2.2⟩, if_pos h3]
        · rw [if_neg (fun q => h3 ⟨q.1, by omega, q.2.2⟩), if_neg h3]
    · rw [kb_up_ne _ _ _ h2]
      unfold kr_mg
      rw [kb_ro_ne _ _ h1, kb_ro_ne _ _ h2, kb_ro_ne _ _ h1, kb_ro_ne _ _ h2]
theorem kr_mg_ne (R : kb_M) (t : Int32) (g n : Nat) {k : Nat} (h1 : k ≠ 40) (h2 : k ≠ 42) : kr_mg R t g n k = R k := by
  unfold kr_mg
  rw [kb_ro_ne _ _ h1, kb_ro_ne _ _ h2]
theorem kr_mg_42 (R : kb_M) (t : Int32) (g n j : Nat) : kr_mg R t g n 42 j = if 60 * g ≤ j ∧ j < 60 * g + n ∧ R 42 j = 3 ∧ R 43 j ≤ t then 1 else R 42 j := by
  unfold kr_mg
  rw [kb_ro_ne _ _ (by decide), kb_ro_at]
theorem kr_mg_40 (R : kb_M) (t : Int32) (g n : Nat) : kr_mg R t g n 40 = upd (R 40) g (R 40 g + nI (kr_k R t g n)) := by
  unfold kr_mg
  rw [kb_ro_at]
set_option maxRecDepth 100000 in
/-- the inner loop: guest g's tickets -/
theorem cr_moveG {S : kb_M} {t : Int32} {g n c : Nat} {Q : kb_R → Prop} (hg : g < 2) (hn : n ≤ 60) (hbd : S 39 g = nI n) (ht : S 33 0 = t) (K : ∀ x, kb_E (kz_Model_moveTo, 101, [some (.inr (some 33)), some (.inl t), some (.inl (nI (c + kr_k S t g n))), some (.inl (nI (2 + g))), some (.inl (nI n)), x], [], kr_mg S t g n) Q) :
    ∀ (k i : Nat) (w v : Int32) (x : Option kb_v), i + k = n → w = nI (c + kr_k S t g i) → v = nI i → kb_E (kz_Model_moveTo, 17, [some (.inr (some 33)), some (.inl t), some (.inl w), some (.inl (nI (2 + g))), some (.inl v), x], [], kr_mg S t g i) Q := by
  have eg := kr_g2 hg
  have eg2 : (nI g).toNatClampNeg = g := nI_clamp (by omega)
  intro k
  induction k with
  | zero =>
    intro i w v x hi hw hv
    subst hv; subst hw
    have hi : i = n := by omega
    subst hi
    refine kb_go 40 [17, 101] ?_
    refine And.intro (by rw [eg]; exact kb_in_nI hg (by omega)) ?_
    refine And.intro (fun h => K x) (fun h => ?_)
    have h := of_decide_eq_false h
    rw [eg, eg2, kr_mg_ne _ _ _ _ (by decide) (by decide), hbd] at h
    exact absurd (Int32.le_refl _) h
  | succ k ih =>
    intro i w v x hi hw hv
    subst hv; subst hw
    have hx := kr_60 hg i
    have hcl : (nI (60 * g + i)).toNatClampNeg = 60 * g + i := nI_clamp (by omega)
    have hin : kb_in (nI (60 * g + i)) 120 = true := kb_in_nI (by omega) (by omega)
    have h42 : kr_mg S t g i 42 (60 * g + i) = S 42 (60 * g + i) := by rw [kr_mg_42, if_neg (by omega)]
    refine kb_go 80 [17, 101] ?_
    refine And.intro (by rw [eg]; exact kb_in_nI hg (by omega)) ?_
    refine And.intro (fun h => ?_) (fun _ => ?_)
    · have h := of_decide_eq_true h
      rw [eg, eg2, kr_mg_ne _ _ _ _ (by decide) (by decide), hbd, nI_leI (by omega) (by omega)] at h
      omega
    · refine And.intro (by rw [eg, hx]; exact hin) ?_
      refine And.intro (fun h => ?_) (fun h => ?_)
      · have h := of_decide_eq_true h
        rw [eg, hx, hcl, h42] at h
        have hno : ¬ (S 42 (60 * g + i) = 3 ∧ S 43 (60 * g + i) ≤ t) := fun q => h q.1
        rw [← kr_mg_no hno]
        refine ih (i + 1) _ _ _ (by omega) ?_ (nI_succ i).symm
        rw [show kr_k S t g (i + 1) = kr_k S t g i from by show _ + _ = _; rw [if_neg hno]; rfl]
      · have h := Classical.not_not.mp (of_decide_eq_false h)
        rw [eg, hx, hcl, h42] at h
        refine And.intro (by rw [eg, hx]; exact hin) ?_
        refine And.intro (fun h2 => ?_) (fun h2 => ?_)
        · have h2 := of_decide_eq_true h2
          rw [eg, hx, hcl, kr_mg_ne _ _ _ _ (by decide) (by decide), kr_mg_ne _ _ _ _ (by decide) (by decide), ht] at h2
          have hno : ¬ (S 42 (60 * g + i) = 3 ∧ S 43 (60 * g + i) ≤ t) := fun q => absurd q.2 (Int32.not_le.mpr h2)
          rw [← kr_mg_no hno]
          refine ih (i + 1) _ _ _ (by omega) ?_ (nI_succ i).symm
          rw [show kr_k S t g (i + 1) = kr_k S t g i from by show _ + _ = _; rw [if_neg hno]; rfl]
        · have h2 := of_decide_eq_false h2
          rw [eg, hx, hcl, kr_mg_ne _ _ _ _ (by decide) (by decide), kr_mg_ne _ _ _ _ (by decide) (by decide), ht] at h2
          have hyes : S 42 (60 * g + i) = 3 ∧ S 43 (60 * g + i) ≤ t := ⟨h, Int32.not_lt.mp h2⟩
          refine And.intro (by rw [eg, hx]; exact hin) ?_
          refine And.intro (by rw [eg]; exact kb_in_nI hg (by omega)) ?_
          refine And.intro (by rw [eg]; exact kb_in_nI hg (by omega)) ?_
          have h3 := fun x => ih (i + 1) _ _ x (by omega) (show nI (c + kr_k S t g i) + 1 = nI (c + kr_k S t g (i + 1)) from by rw [show kr_k S t g (i + 1) = kr_k S t g i + 1 from by show _ + _ = _; rw [if_pos hyes], ← Nat.add_assoc, nI_succ]) (nI_succ i).symm
          rw [kr_mg_yes hyes] at h3
          have e40 : (kb_up (kr_mg S t g i) 42 (60 * g + i) 1) 40 = (kr_mg S t g i) 40 := kb_up_ne _ _ _ (by decide)
          have h4 := h3 (some (.inl ((Int8.ofInt 60).toInt32 * (nI (2 + g) - Int32.ofInt 2) + nI i)))
          have e1 : ((Int8.ofInt 60).toInt32 * (nI (2 + g) - Int32.ofInt 2) + nI i).toNatClampNeg = 60 * g + i := by rw [eg, hx, hcl]
          have e2 : (nI (2 + g) - Int32.ofInt 2).toNatClampNeg = g := by rw [eg, eg2]
          show kb_E (_, _, _, _, kb_up (kb_up (kr_mg S t g i) 42 ((Int8.ofInt 60).toInt32 * (nI (2 + g) - Int32.ofInt 2) + nI i).toNatClampNeg 1) 40 (nI (2 + g) - Int32.ofInt 2).toNatClampNeg ((kb_up (kr_mg S t g i) 42 ((Int8.ofInt 60).toInt32 * (nI (2 + g) - Int32.ofInt 2) + nI i).toNatClampNeg 1) 40 (nI (2 + g) - Int32.ofInt 2).toNatClampNeg + 1)) Q
          rw [e1, e2, e40]
          exact h4
theorem kr_k_eq {R S : kb_M} {t : Int32} {g : Nat} : ∀ n, (∀ j, 60 * g ≤ j → j < 60 * g + n → S 42 j = R 42 j ∧ S 43 j = R 43 j) → kr_k S t g n = kr_k R t g n := by
  intro n
  induction n with
  | zero => intro _; rfl
  | succ n ih =>
    intro h
    unfold kr_k
    rw [ih (fun j h1 h2 => h j h1 (by omega)), (h (60 * g + n) (by omega) (by omega)).1, (h (60 * g + n) (by omega) (by omega)).2]
/-- the time moves to t -/
def kr_m0 (R : kb_M) (t : Int32) : kb_M := kr_mg (kb_up R 33 0 t) t 0 (kr_bd R 0)
def kr_mv (R : kb_M) (t : Int32) : kb_M := kr_mg (kr_m0 R t) t 1 (kr_bd R 1)
set_option maxRecDepth 100000 in
theorem cr_moveTo {R : kb_M} (hR : kr_ok R) (t : Int32) : kb_E (kb_en kz_Model_moveTo [.inr (some 33), .inl t] R) (fun q => q = (some (.inl (nI (kr_k R t 0 (kr_bd R 0) + kr_k R t 1 (kr_bd R 1)))), kr_mv R t)) := by
  have hb0 := hR.1 0 (by decide)
  have hb1 := hR.1 1 (by decide)
  have e0 : kr_k (kb_up R 33 0 t) t 0 (kr_bd R 0) = kr_k R t 0 (kr_bd R 0) := kr_k_eq _ (fun j _ _ => ⟨by rw [kb_up_ne _ _ _ (by decide)], by rw [kb_up_ne _ _ _ (by decide)]⟩)
  have e1 : kr_k (kr_m0 R t) t 1 (kr_bd R 1) = kr_k R t 1 (kr_bd R 1) := kr_k_eq _ (fun j h1 _ => ⟨by unfold kr_m0; rw [kr_mg_42, if_neg (by omega), kb_up_ne _ _ _ (by decide)], by unfold kr_m0; rw [kr_mg_ne _ _ _ _ (by decide) (by decide), kb_up_ne _ _ _ (by decide)]⟩)
  have t1 : (kr_m0 R t) 33 0 = t := by unfold kr_m0; rw [kr_mg_ne _ _ _ _ (by decide) (by decide), kb_up_at]; exact pk_us
  have t0 : (kb_up R 33 0 t) 33 0 = t := by rw [kb_up_at]; exact pk_us
  have b0 : (kb_up R 33 0 t) 39 0 = nI (kr_bd R 0) := by rw [kb_up_ne _ _ _ (by decide)]; exact hb0.1
  have b1 : (kr_m0 R t) 39 1 = nI (kr_bd R 1) := by unfold kr_m0; rw [kr_mg_ne _ _ _ _ (by decide) (by decide), kb_up_ne _ _ _ (by decide)]; exact hb1.1
  have G1 : ∀ (w : Int32) (x : Option kb_v), w = nI (kr_k R t 0 (kr_bd R 0)) → kb_E (kz_Model_moveTo, 17, [some (.inr (some 33)), some (.inl t), some (.inl w), some (.inl (nI (2 + 1))), some (.inl 0), x], [], kr_m0 R t) (fun q => q = (some (.inl (nI (kr_k R t 0 (kr_bd R 0) + kr_k R t 1 (kr_bd R 1)))), kr_mv R t)) := by
    intro w x hw
    have h := cr_moveG (S := kr_m0 R t) (t := t) (g := 1) (n := kr_bd R 1) (c := kr_k R t 0 (kr_bd R 0)) (Q := fun q => q = (some (.inl (nI (kr_k R t 0 (kr_bd R 0) + kr_k R t 1 (kr_bd R 1)))), kr_mv R t)) (by decide) hb1.2 b1 t1 ?_ (kr_bd R 1) 0 w 0 x (by omega) hw rfl
    · rw [kr_mg_0] at h
      exact h
    · intro x
      rw [e1]
      refine kb_go 20 [] ?_
      refine And.intro (fun _ => ?_) (fun h => absurd h (by decide))
      exact And.intro rfl rfl
  have G0 : ∀ (x : Option kb_v), kb_E (kz_Model_moveTo, 17, [some (.inr (some 33)), some (.inl t), some (.inl 0), some (.inl (nI (2 + 0))), some (.inl 0), x], [], kb_up R 33 0 t) (fun q => q = (some (.inl (nI (kr_k R t 0 (kr_bd R 0) + kr_k R t 1 (kr_bd R 1)))), kr_mv R t)) := by
    intro x
    have h := cr_moveG (S := kb_up R 33 0 t) (t := t) (g := 0) (n := kr_bd R 0) (c := 0) (Q := fun q => q = (some (.inl (nI (kr_k R t 0 (kr_bd R 0) + kr_k R t 1 (kr_bd R 1)))), kr_mv R t)) (by decide) hb0.2 b0 t0 ?_ (kr_bd R 0) 0 0 0 x (by omega) rfl rfl
    · rw [kr_mg_0] at h
      exact h
    · intro x
      rw [e0, Nat.zero_add]
      refine kb_go 20 [17] ?_
      refine And.intro (fun h => absurd h (by decide)) (fun _ => ?_)
      exact G1 _ x rfl
  refine kb_go 20 [17] ?_
  refine And.intro (fun h => absurd h (by decide)) (fun _ => ?_)
  exact G0 none
/-- the earliest deadline among the first n tickets of guest g, of kind b, and v (below 0: none) -/
def kr_e1 (R : kb_M) (g : Nat) (b v : Int32) : Nat → Int32
  | 0 => v
  | n + 1 => if R 42 (60 * g + n) = 3 ∧ R 41 (60 * g + n) = b ∧ (kr_e1 R g b v n < 0 ∨ R 43 (60 * g + n) < kr_e1 R g b v n) then R 43 (60 * g + n) else kr_e1 R g b v n
def kr_e (R : kb_M) (b : Int32) : Int32 := kr_e1 R 1 b (kr_e1 R 0 b (-1) (kr_bd R 0)) (kr_bd R 1)
theorem kr_60' {g : Nat} (hg : g < 2) (t : Nat) : (Int8.ofInt 60).toInt32 * nI g + nI t = nI (60 * g + t) := kr_60 hg t
set_option maxRecDepth 100000 in
theorem cr_earliestG {R : kb_M} {b v0 : Int32} {g n : Nat} {Q : kb_R → Prop} (hg : g < 2) (hn : n ≤ 60) (hbd : R 39 g = nI n) (K : ∀ x, kb_E (kz_Model_earliest, 83, [some (.inr (some 33)), some (.inl b), some (.inl (kr_e1 R g b v0 n)), some (.inl (nI g)), some (.inl (nI n)), x], [], R) Q) :
    ∀ (k i : Nat) (w v : Int32) (x : Option kb_v), i + k = n → w = kr_e1 R g b v0 i → v = nI i → kb_E (kz_Model_earliest, 12, [some (.inr (some 33)), some (.inl b), some (.inl w), some (.inl (nI g)), some (.inl v), x], [], R) Q := by
  have eg2 : (nI g).toNatClampNeg = g := nI_clamp (by omega)
  intro k
  induction k with
  | zero =>
    intro i w v x hi hw hv
    subst hv; subst hw
    have hi : i = n := by omega
    subst hi
    refine kb_go 40 [12, 83] ?_
    refine And.intro (kb_in_nI hg (by omega)) ?_
    refine And.intro (fun h => K x) (fun h => ?_)
    have h := of_decide_eq_false h
    rw [eg2, hbd] at h
    exact absurd (Int32.le_refl _) h
  | succ k ih =>
    intro i w v x hi hw hv
    subst hv
    have hx := kr_60 hg i
    have hcl : (nI (60 * g + i)).toNatClampNeg = 60 * g + i := nI_clamp (by omega)
    have hin : kb_in (nI (60 * g + i)) 120 = true := kb_in_nI (by omega) (by omega)
    have hs : kr_e1 R g b v0 (i + 1) = if R 42 (60 * g + i) = 3 ∧ R 41 (60 * g + i) = b ∧ (kr_e1 R g b v0 i < 0 ∨ R 43 (60 * g + i) < kr_e1 R g b v0 i) then R 43 (60 * g + i) else kr_e1 R g b v0 i := rfl
    refine kb_go 80 [12, 83] ?_
    refine And.intro (kb_in_nI hg (by omega)) ?_
    refine And.intro (fun h => ?_) (fun _ => ?_)
    · have h := of_decide_eq_true h
      rw [eg2, hbd, nI_leI (by omega) (by omega)] at h
      omega
    · refine And.intro (by rw [hx]; exact hin) ?_
      refine And.intro (fun h => ?_) (fun h => ?_)
      · have h := of_decide_eq_true h
        rw [hx, hcl] at h
        refine ih (i + 1) _ _ _ (by omega) ?_ (nI_succ i).symm
        rw [hs, if_neg (fun q => h q.1)]
        exact hw
      · have h := Classical.not_not.mp (of_decide_eq_false h)
        rw [hx, hcl] at h
        refine And.intro (by rw [hx]; exact hin) ?_
        refine And.intro (fun h2 => ?_) (fun h2 => ?_)
        · have h2 := of_decide_eq_true h2
          rw [hx, hcl] at h2
          refine ih (i + 1) _ _ _ (by omega) ?_ (nI_succ i).symm
          rw [hs, if_neg (fun q => h2 q.2.1)]
          exact hw
        · have h2 := Classical.not_not.mp (of_decide_eq_false h2)
          rw [hx, hcl] at h2
          refine And.intro (fun h3 => ?_) (fun h3 => ?_)
          · have h3 := of_decide_eq_true h3
            refine And.intro (by rw [hx]; exact hin) ?_
            refine ih (i + 1) _ _ _ (by omega) ?_ (nI_succ i).symm
            rw [hs, if_pos ⟨h, h2, Or.inl (by rw [← hw]; exact h3)⟩, hx, hcl]
          · have h3 := of_decide_eq_false h3
            refine And.intro (by rw [hx]; exact hin) ?_
            refine And.intro (fun h4 => ?_) (fun h4 => ?_)
            · have h4 := of_decide_eq_true h4
              rw [hx, hcl] at h4
              refine ih (i + 1) _ _ _ (by omega) ?_ (nI_succ i).symm
              rw [hs, if_neg (fun q => by
                rcases q.2.2 with q | q
                · exact h3 (by rw [hw]; exact q)
                · exact absurd q (Int32.not_lt.mpr (by rw [← hw]; exact h4)))]
              exact hw
            · have h4 := of_decide_eq_false h4
              rw [hx, hcl] at h4
              refine And.intro (by rw [hx]; exact hin) ?_
              refine ih (i + 1) _ _ _ (by omega) ?_ (nI_succ i).symm
              rw [hs, if_pos ⟨h, h2, Or.inr (by rw [← hw]; exact Int32.not_le.mp h4)⟩, hx, hcl]
set_option maxRecDepth 100000 in
theorem cr_earliest {R : kb_M} (hR : kr_ok R) (b : Int32) : kb_E (kb_en kz_Model_earliest [.inr (some 33), .inl b] R) (fun q => q = (some (.inl (kr_e R b)), R)) := by
  have hb0 := hR.1 0 (by decide)
  have hb1 := hR.1 1 (by decide)
  have G1 : ∀ (w : Int32) (x : Option kb_v), w = kr_e1 R 0 b (-1) (kr_bd R 0) → kb_E (kz_Model_earliest, 12, [some (.inr (some 33)), some (.inl b), some (.inl w), some (.inl (nI 1)), some (.inl 0), x], [], R) (fun q => q = (some (.inl (kr_e R b)), R)) := by
    intro w x hw
    refine cr_earliestG (v0 := kr_e1 R 0 b (-1) (kr_bd R 0)) (g := 1) (n := kr_bd R 1) (by decide) hb1.2 hb1.1 ?_ (kr_bd R 1) 0 w 0 x (by omega) hw rfl
    intro x
    refine kb_go 20 [] ?_
    refine And.intro (fun _ => ?_) (fun h => absurd h (by decide))
    exact And.intro rfl rfl
  refine kb_go 20 [12] ?_
  refine And.intro (fun h => absurd h (by decide)) (fun _ => ?_)
  refine cr_earliestG (v0 := -1) (g := 0) (n := kr_bd R 0) (by decide) hb0.2 hb0.1 ?_ (kr_bd R 0) 0 _ _ _ (by omega) rfl rfl
  intro x
  refine kb_go 20 [12] ?_
  refine And.intro (fun h => absurd h (by decide)) (fun _ => ?_)
  exact G1 _ x rfl
/-- a ticket is asked for -/
def kr_mk (R : kb_M) (j : Nat) : kb_M := kb_up (kb_up R 42 j 3) 43 j (R 33 0 + 5)
set_option maxRecDepth 100000 in
theorem cr_mark (R : kb_M) {j : Nat} (hj : j < 120) : kb_E (kb_en kz_Model_mark [.inr (some 33), .inl (nI j)] R) (fun q => q = (none, kr_mk R j)) := by
  have hcl : (nI j).toNatClampNeg = j := nI_clamp (by omega)
  refine kb_go 20 [] ?_
  refine And.intro (kb_in_nI hj (by omega)) ?_
  refine And.intro (kb_in_nI hj (by omega)) (And.intro rfl ?_)
  rw [hcl]
  rfl
/-- the last of the first n tickets of guest g that is of kind b and not asked for -/
def kr_la (R : kb_M) (g : Nat) (b : Int32) : Nat → Option Nat
  | 0 => none
  | n + 1 => if R 42 (60 * g + n) = 2 ∧ R 41 (60 * g + n) = b then some n else kr_la R g b n
def kr_lv (g : Nat) (o : Option Nat) : Int32 := match o with
  | none => -1
  | some t => nI (60 * g + t)
def kr_ri (R : kb_M) (b : Int32) : Nat := if kr_l R 0 b (kr_bd R 0) < kr_l R 1 b (kr_bd R 1) then 1 else 0
def kr_wi (R : kb_M) (b : Int32) : kb_M := if kr_e R b < 0 then (match kr_la R (kr_ri R b) b (kr_bd R (kr_ri R b)) with
  | none => R
  | some t => kr_mk R (60 * kr_ri R b + t)) else R
theorem kr_la_lt {R : kb_M} {g : Nat} {b : Int32} {t : Nat} : ∀ {n : Nat}, kr_la R g b n = some t → t < n ∧ R 42 (60 * g + t) = 2 ∧ R 41 (60 * g + t) = b := by
  intro n
  induction n with
  | zero => intro h; cases h
  | succ n ih =>
    intro h
    unfold kr_la at h
    split at h
    next hc => cases h; exact ⟨by omega, hc⟩
    next => exact ⟨by have := (ih h).1; omega, (ih h).2⟩
set_option maxRecDepth 100000 in
theorem cr_wishG {R : kb_M} {b : Int32} {g n : Nat} {Q : kb_R → Prop} (hg : g < 2) (hn : n ≤ 60) (hbd : R 39 g = nI n) (K : ∀ x, kb_E (kz_Model_wish, 94, [some (.inr (some 33)), some (.inl b), some (.inl (nI (2 + g))), some (.inl (kr_lv g (kr_la R g b n))), some (.inl (nI n)), x], [], R) Q) :
    ∀ (k i : Nat) (w v : Int32) (x : Option kb_v), i + k = n → w = kr_lv g (kr_la R g b i) → v = nI i → kb_E (kz_Model_wish, 35, [some (.inr (some 33)), some (.inl b), some (.inl (nI (2 + g))), some (.inl w), some (.inl v), x], [], R) Q := by
  have eg := kr_g2 hg
  have eg2 : (nI g).toNatClampNeg = g := nI_clamp (by omega)
  intro k
  induction k with
  | zero =>
    intro i w v x hi hw hv
    subst hv; subst hw
    have hi : i = n := by omega
    subst hi
    refine kb_go 40 [35, 94] ?_
    refine And.intro (by rw [eg]; exact kb_in_nI hg (by omega)) ?_
    refine And.intro (fun h => K x) (fun h => ?_)
    have h := of_decide_eq_false h
    rw [eg, eg2, hbd] at h
    exact absurd (Int32.le_refl _) h
  | succ k ih =>
    intro i w v x hi hw hv
    subst hv
    have hx := kr_60 hg i
    have hcl : (nI (60 * g + i)).toNatClampNeg = 60 * g + i := nI_clamp (by omega)
    have hin : kb_in (nI (60 * g + i)) 120 = true := kb_in_nI (by omega) (by omega)
    have hs : kr_la R g b (i + 1) = if R 42 (60 * g + i) = 2 ∧ R 41 (60 * g + i) = b then some i else kr_la R g b i := rfl
    refine kb_go 80 [35, 94] ?_
    refine And.intro (by rw [eg]; exact kb_in_nI hg (by omega)) ?_
    refine And.intro (fun h => ?_) (fun _ => ?_)
    · have h := of_decide_eq_true h
      rw [eg, eg2, hbd, nI_leI (by omega) (by omega)] at h
      omega
    · refine And.intro (by rw [eg, hx]; exact hin) ?_
      refine And.intro (fun h => ?_) (fun h => ?_)
      · have h := of_decide_eq_true h
        rw [eg, hx, hcl] at h
        refine ih (i + 1) _ _ _ (by omega) ?_ (nI_succ i).symm
        rw [hs, if_neg (fun q => h q.1)]
        exact hw
      · have h := Classical.not_not.mp (of_decide_eq_false h)
        rw [eg, hx, hcl] at h
        refine And.intro (by rw [eg, hx]; exact hin) ?_
        refine And.intro (fun h2 => ?_) (fun h2 => ?_)
        · have h2 := of_decide_eq_true h2
          rw [eg, hx, hcl] at h2
          refine ih (i + 1) _ _ _ (by omega) ?_ (nI_succ i).symm
          rw [hs, if_neg (fun q => h2 q.2)]
          exact hw
        · have h2 := Classical.not_not.mp (of_decide_eq_false h2)
          rw [eg, hx, hcl] at h2
          refine ih (i + 1) _ _ _ (by omega) ?_ (nI_succ i).symm
          rw [hs, if_pos ⟨h, h2⟩, eg, hx]
          rfl
set_option maxRecDepth 100000 in
theorem cr_wish {R : kb_M} (hR : kr_ok R) (b : Int32) : kb_E (kb_en kz_Model_wish [.inr (some 33), .inl b] R) (fun q => q = (none, kr_wi R b)) := by
  have hb0 := hR.1 0 (by decide)
  have hb1 := hR.1 1 (by decide)
  have l0 := kr_l_le R 0 b (kr_bd R 0)
  have l1 := kr_l_le R 1 b (kr_bd R 1)
  have fin : ∀ g, g < 2 → g = kr_ri R b → kr_e R b < 0 → ∀ x, kb_E (kz_Model_wish, 94, [some (.inr (some 33)), some (.inl b), some (.inl (nI (2 + g))), some (.inl (kr_lv g (kr_la R g b (kr_bd R g)))), some (.inl (nI (kr_bd R g))), x], [], R) (fun q => q = (none, kr_wi R b)) := by
    intro g hg he hneg x
    have hw : kr_wi R b = match kr_la R g b (kr_bd R g) with
      | none => R
      | some t => kr_mk R (60 * g + t) := by unfold kr_wi; rw [if_pos hneg, ← he]
    rw [hw]
    cases hl : kr_la R g b (kr_bd R g) with
    | none =>
      refine kb_go 20 [] ?_
      refine And.intro (fun _ => And.intro rfl rfl) (fun h => absurd (show decide ((-1 : Int32) < 0) = false from h) (by decide))
    | some t =>
      have ht := (kr_la_lt hl).1
      have hb := (hR.1 g hg).2
      refine kb_go 20 [] ?_
      refine And.intro (fun h => absurd (of_decide_eq_true h) (nI_pos (by omega))) (fun _ => ?_)
      exact kb_E_to (cr_mark R (j := 60 * g + t) (by omega)) (And.intro rfl rfl)
  refine kb_go 60 [35] ?_
  refine kb_E_to (cr_earliest hR b) ?_
  refine And.intro (fun h => ?_) (fun h => ?_)
  · have h := of_decide_eq_true h
    refine kb_E_to (cr_liveOf hR (g := 1) (by decide) b) ?_
    refine kb_E_to (cr_liveOf hR (g := 0) (by decide) b) ?_
    refine And.intro (fun h2 => ?_) (fun h2 => ?_)
    · have h2 := of_decide_eq_true h2
      rw [nI_leI (by omega) (by omega)] at h2
      have hg : 0 = kr_ri R b := by unfold kr_ri; rw [if_neg (by omega)]
      exact cr_wishG (g := 0) (n := kr_bd R 0) (by decide) hb0.2 hb0.1 (fin 0 (by decide) hg h) (kr_bd R 0) 0 _ _ _ (by omega) rfl rfl
    · have h2 := of_decide_eq_false h2
      rw [nI_leI (by omega) (by omega)] at h2
      have hg : 1 = kr_ri R b := by unfold kr_ri; rw [if_pos (by omega)]
      exact cr_wishG (g := 1) (n := kr_bd R 1) (by decide) hb1.2 hb1.1 (fin 1 (by decide) hg h) (kr_bd R 1) 0 _ _ _ (by omega) rfl rfl
  · have h := of_decide_eq_false h
    refine And.intro rfl ?_
    unfold kr_wi
    rw [if_neg h]
theorem kr_ok_eq {R S : kb_M} (hR : kr_ok R) (h35 : S 35 = R 35) (h37 : S 37 = R 37) (h38 : S 38 = R 38) (h39 : S 39 = R 39) (h41 : S 41 = R 41) : kr_ok S := by
  unfold kr_ok kr_bd kr_sz kr_fr at hR ⊢
  rw [h35, h37, h38, h39, h41]
  exact hR
theorem kr_wi_ne (R : kb_M) (b : Int32) {k : Nat} (h1 : k ≠ 42) (h2 : k ≠ 43) : kr_wi R b k = R k := by
  unfold kr_wi
  split
  next =>
    cases kr_la R (kr_ri R b) b (kr_bd R (kr_ri R b)) with
    | none => rfl
    | some t => show kr_mk R _ k = R k; unfold kr_mk; rw [kb_up_ne _ _ _ h2, kb_up_ne _ _ _ h1]
  next => rfl
theorem kr_wi_ok {R : kb_M} (hR : kr_ok R) (b : Int32) : kr_ok (kr_wi R b) := kr_ok_eq hR (kr_wi_ne R b (by decide) (by decide)) (kr_wi_ne R b (by decide) (by decide)) (kr_wi_ne R b (by decide) (by decide)) (kr_wi_ne R b (by decide) (by decide)) (kr_wi_ne R b (by decide) (by decide))
def kr_cm (R : kb_M) (b : Nat) : kb_M := if kr_f R b = 0 then kr_mv (kr_wi R (nI b)) (kr_e (kr_wi R (nI b)) (nI b)) else R
set_option maxRecDepth 100000 in
theorem cr_claim {R : kb_M} (hR : kr_ok R) {b : Nat} (hb : b < 2) : kb_E (kb_en kz_Model_claim [.inr (some 33), .inl (nI b)] R) (fun q => q = (none, kr_cm R b)) := by
  refine kb_go 40 [] ?_
  refine kb_E_to (cr_free hR hb) ?_
  unfold kr_cm
  refine And.intro (fun h => ?_) (fun h => ?_)
  · have h := of_decide_eq_true h
    rw [if_neg h]
    exact And.intro rfl rfl
  · have h := Classical.not_not.mp (of_decide_eq_false h)
    rw [if_pos h]
    refine kb_E_to (cr_wish hR (nI b)) ?_
    refine kb_E_to (cr_earliest (kr_wi_ok hR (nI b)) (nI b)) ?_
    refine kb_E_to (cr_moveTo (kr_wi_ok hR (nI b)) _) ?_
    exact And.intro rfl rfl
end
section
/-! the reference: files and what lies in frames -/
set_option maxRecDepth 100000 in
theorem cr_noFile (R : kb_M) (app name : Int32) : kb_E (kb_en kz_Model_noFile [.inr (some 33), .inl app, .inl name] R) (fun q => q = (some (.inl (if (0 ≤ app ∧ app ≤ 1) ∧ 0 ≤ name ∧ name ≤ 5 then 0 else 1)), R)) := by
  have h1 := cr_within R app 0 1
  have h2 := cr_within R name 0 5
  refine kb_go 20 [] ?_
  refine kb_E_to h1 ?_
  by_cases ha : 0 ≤ app ∧ app ≤ 1
  · rw [if_pos ha]
    refine And.intro (fun h => absurd h (by decide)) (fun _ => ?_)
    refine kb_E_to h2 ?_
    by_cases hn : 0 ≤ name ∧ name ≤ 5
    · rw [if_pos hn, if_pos ⟨ha, hn⟩]
      exact And.intro (fun _ => And.intro rfl rfl) (fun h => absurd h (by decide))
    · rw [if_neg hn, if_neg (fun q => hn q.2)]
      exact And.intro (fun h => absurd h (by decide)) (fun _ => And.intro rfl rfl)
  · rw [if_neg ha, if_neg (fun q => ha q.1)]
    exact And.intro (fun _ => And.intro rfl rfl) (fun h => absurd h (by decide))
theorem kr_in (v : Int32) {n : Nat} (hn : n < 2 ^ 31) (h : 0 ≤ v ∧ v ≤ nI n) : ∃ k : Nat, k ≤ n ∧ v = nI k := by
  have h1 : ¬ v < 0 := Int32.not_lt.mpr h.1
  obtain ⟨k, hk, rfl⟩ := nI_of h1
  exact ⟨k, (nI_leI hk hn).mp h.2, rfl⟩
theorem kr_out {k n : Nat} (hk : k ≤ n) (hn : n < 2 ^ 31) : 0 ≤ nI k ∧ nI k ≤ nI n := ⟨nI_pos' (by omega), nI_le hk hn⟩
set_option maxRecDepth 100000 in
theorem cr_noWord {R : kb_M} {a f : Nat} (ha : a < 2) (hf : f < 6) (i : Int32) : kb_E (kb_en kz_Model_noWord [.inr (some 33), .inl (nI a), .inl (nI f), .inl i] R) (fun q => q = (some (.inl (if 0 ≤ i ∧ i ≤ R 35 (6 * a + f) - 1 then 0 else 1)), R)) := by
  have h1 := cr_noFile R (nI a) (nI f)
  rw [if_pos ⟨kr_out (n := 1) (by omega) (by omega), kr_out (n := 5) (by omega) (by omega)⟩] at h1
  have h2 := cr_within R i 0 (R 35 (6 * a + f) - 1)
  have hx := kr_6 (a := a) (by omega) f
  have hcl : (nI (6 * a + f)).toNatClampNeg = 6 * a + f := nI_clamp (by omega)
  refine kb_go 30 [] ?_
  refine kb_E_to h1 ?_
  refine And.intro (fun h => absurd h (by decide)) (fun _ => ?_)
  refine And.intro (by rw [hx]; exact kb_in_nI (by omega) (by omega)) ?_
  rw [← hcl, ← hx] at h2
  refine kb_E_to h2 ?_
  rw [hx, hcl]
  by_cases hn : 0 ≤ i ∧ i ≤ R 35 (6 * a + f) - 1
  · rw [if_pos hn, if_pos hn]
    exact And.intro (fun _ => And.intro rfl rfl) (fun h => absurd h (by decide))
  · rw [if_neg hn, if_neg hn]
    exact And.intro (fun h => absurd h (by decide)) (fun _ => And.intro rfl rfl)
/-- no such application or file: refused -/
theorem cr_noWord0 {R : kb_M} {app name : Int32} (h0 : ¬ ((0 ≤ app ∧ app ≤ 1) ∧ 0 ≤ name ∧ name ≤ 5)) (i : Int32) : kb_E (kb_en kz_Model_noWord [.inr (some 33), .inl app, .inl name, .inl i] R) (fun q => q = (some (.inl 1), R)) := by
  have h1 := cr_noFile R app name
  rw [if_neg h0] at h1
  refine kb_go 30 [] ?_
  refine kb_E_to h1 ?_
  exact And.intro (fun _ => And.intro rfl rfl) (fun h => absurd h (by decide))
/-- where among the first n of application a the part p lies -/
def kr_fi (R : kb_M) (a : Nat) (p : Int32) : Nat → Option Nat
  | 0 => none
  | n + 1 => if R 36 (3 * a + n) = p then some n else kr_fi R a p n
def kr_fv (a : Nat) (o : Option Nat) : Int32 := match o with
  | none => -1
  | some j => nI (3 * a + j)
theorem kr_fi_lt {R : kb_M} {a : Nat} {p : Int32} {j : Nat} : ∀ {n : Nat}, kr_fi R a p n = some j → j < n ∧ R 36 (3 * a + j) = p := by
  intro n
  induction n with
  | zero => intro h; cases h
  | succ n ih =>
    intro h
    unfold kr_fi at h
    split at h
    next hc => cases h; exact ⟨by omega, hc⟩
    next => exact ⟨by have := (ih h).1; omega, (ih h).2⟩
theorem kr_fi_no {R : kb_M} {a : Nat} {p : Int32} : ∀ {n : Nat}, kr_fi R a p n = none → ∀ j, j < n → R 36 (3 * a + j) ≠ p := by
  intro n
  induction n with
  | zero => intro _ j hj; omega
  | succ n ih =>
    intro h j hj
    unfold kr_fi at h
    split at h
    next => cases h
    next hc =>
      by_cases hjn : j = n
      · rw [hjn]; exact hc
      · exact ih h j (by omega)
theorem kr_3 (a : Nat) : Int32.ofInt 3 * nI a = nI (3 * a) := by rw [show Int32.ofInt 3 = nI 3 from rfl, pk_mul]
set_option maxRecDepth 100000 in
theorem cr_find {R : kb_M} (hR : kr_ok R) {a : Nat} (ha : a < 2) (p : Int32) : kb_E (kb_en kz_Model_find [.inr (some 33), .inl (nI a), .inl p] R) (fun q => q = (some (.inl (kr_fv a (kr_fi R a p (kr_fr R a)))), R)) := by
  obtain ⟨hfr, hle⟩ := hR.2.2.1 a ha
  have ea : (nI a).toNatClampNeg = a := nI_clamp (by omega)
  have loop : ∀ (k i : Nat) (w v : Int32), i + k = kr_fr R a → w = kr_fv a (kr_fi R a p i) → v = nI (3 * a + i) → kb_E (kz_Model_find, 7, [some (.inr (some 33)), some (.inl (nI a)), some (.inl p), some (.inl w), some (.inl v)], [], R) (fun q => q = (some (.inl (kr_fv a (kr_fi R a p (kr_fr R a)))), R)) := by
    intro k
    induction k with
    | zero =>
      intro i w v hi hw hv
      subst hv; subst hw
      refine kb_go 40 [7] ?_
      refine And.intro (kb_in_nI ha (by omega)) ?_
      refine And.intro (fun h => ?_) (fun h => ?_)
      · rw [show kr_fr R a = i by omega]
        exact And.intro rfl rfl
      · have h := of_decide_eq_false h
        rw [ea, hfr, kr_3, nI_add, show kr_fr R a = i by omega] at h
        exact absurd (Int32.le_refl _) h
    | succ k ih =>
      intro i w v hi hw hv
      subst hv
      have hcl : (nI (3 * a + i)).toNatClampNeg = 3 * a + i := nI_clamp (by omega)
      have hs : kr_fi R a p (i + 1) = if R 36 (3 * a + i) = p then some i else kr_fi R a p i := rfl
      refine kb_go 40 [7] ?_
      refine And.intro (kb_in_nI ha (by omega)) ?_
      refine And.intro (fun h => ?_) (fun _ => ?_)
      · have h := of_decide_eq_true h
        rw [ea, hfr, kr_3, nI_add, nI_leI (by omega) (by omega)] at h
        omega
      · refine And.intro (kb_in_nI (by omega) (by omega)) ?_
        refine And.intro (fun h => ?_) (fun h => ?_)
        · have h := of_decide_eq_true h
          rw [hcl] at h
          refine ih (i + 1) _ _ (by omega) ?_ (nI_succ _).symm
          rw [hs, if_neg h]
          exact hw
        · have h := Classical.not_not.mp (of_decide_eq_false h)
          rw [hcl] at h
          refine ih (i + 1) _ _ (by omega) ?_ (nI_succ _).symm
          rw [hs, if_pos h]
          rfl
  exact kb_go 20 [7] (loop (kr_fr R a) 0 _ _ (by omega) rfl (kr_3 a))
/-- the places from j on move down, up to i -/
def kr_ri1 (R : kb_M) (a j i : Nat) : kb_M := kb_ro (kb_ro R 36 (fun q => if 3 * a + j ≤ q ∧ q < 3 * a + i then R 36 (q + 1) else R 36 q)) 37 (fun q => if 3 * a + j ≤ q ∧ q < 3 * a + i then R 37 (q + 1) else R 37 q)
def kr_rm (R : kb_M) (a j : Nat) : kb_M := kb_up (kr_ri1 R a j (kr_fr R a - 1)) 38 a (nI (kr_fr R a - 1))
theorem kr_ri1_ne (R : kb_M) (a j i : Nat) {k : Nat} (h1 : k ≠ 36) (h2 : k ≠ 37) : kr_ri1 R a j i k = R k := by
  unfold kr_ri1
  rw [kb_ro_ne _ _ h2, kb_ro_ne _ _ h1]
theorem kr_ri1_36 (R : kb_M) (a j i q : Nat) : kr_ri1 R a j i 36 q = if 3 * a + j ≤ q ∧ q < 3 * a + i then R 36 (q + 1) else R 36 q := by
  unfold kr_ri1
  rw [kb_ro_ne _ _ (by decide), kb_ro_at]
theorem kr_ri1_37 (R : kb_M) (a j i q : Nat) : kr_ri1 R a j i 37 q = if 3 * a + j ≤ q ∧ q < 3 * a + i then R 37 (q + 1) else R 37 q := by
  unfold kr_ri1
  rw [kb_ro_at]
theorem kr_ri1_0 (R : kb_M) (a j : Nat) : kr_ri1 R a j j = R := by
  funext k q
  by_cases h1 : k = 36
  · subst h1; rw [kr_ri1_36, if_neg (by omega)]
  · by_cases h2 : k = 37
    · subst h2; rw [kr_ri1_37, if_neg (by omega)]
    · rw [kr_ri1_ne _ _ _ _ h1 h2]
theorem kr_ri1_s {R : kb_M} {a j i : Nat} (hj : j ≤ i) : kb_up (kb_up (kr_ri1 R a j i) 36 (3 * a + i) (R 36 (3 * a + i + 1))) 37 (3 * a + i) (R 37 (3 * a + i + 1)) = kr_ri1 R a j (i + 1) := by
  funext k q
  by_cases h2 : k = 37
  · subst h2
    rw [kb_up_at, kb_up_ne _ _ _ (by decide), kr_ri1_37]
    unfold upd
    by_cases hq : q = 3 * a + i
    · rw [if_pos hq, hq, if_pos (by omega)]
    · rw [if_neg hq, kr_ri1_37]
      by_cases h3 : 3 * a + j ≤ q ∧ q < 3 * a + i
      · rw [if_pos h3, if_pos (by omega)]
      · rw [if_neg h3, if_neg (by omega)]
  · rw [kb_up_ne _ _ _ h2]
    by_cases h1 : k = 36
    · subst h1
      rw [kb_up_at, kr_ri1_36]
      unfold upd
      by_cases hq : q = 3 * a + i
      · rw [if_pos hq, hq, if_pos (by omega)]
      · rw [if_neg hq, kr_ri1_36]
        by_cases h3 : 3 * a + j ≤ q ∧ q < 3 * a + i
        · rw [if_pos h3, if_pos (by omega)]
        · rw [if_neg h3, if_neg (by omega)]
    · rw [kb_up_ne _ _ _ h1, kr_ri1_ne _ _ _ _ h1 h2, kr_ri1_ne _ _ _ _ h1 h2]
theorem kr_01 {v : Int32} (h : v = 0 ∨ v = 1) : (v == 0 || v == 1) = true := by
  rcases h with rfl | rfl <;> rfl
set_option maxRecDepth 100000 in
theorem cr_remove {R : kb_M} (hR : kr_ok R) {a j : Nat} (ha : a < 2) (hj : j < kr_fr R a) : kb_E (kb_en kz_Model_remove [.inr (some 33), .inl (nI a), .inl (nI (3 * a + j))] R) (fun q => q = (none, kr_rm R a j)) := by
  obtain ⟨hfr, hle⟩ := hR.2.2.1 a ha
  have ea : (nI a).toNatClampNeg = a := nI_clamp (by omega)
  have e38 : ∀ i, (kr_ri1 R a j i) 38 = R 38 := fun i => kr_ri1_ne _ _ _ _ (by decide) (by decide)
  have e1 : nI (kr_fr R a) - Int32.ofInt 1 = nI (kr_fr R a - 1) := by rw [show Int32.ofInt 1 = nI 1 from rfl, pk_sub (by omega)]
  have e2 : Int32.ofInt 3 * nI a + nI (kr_fr R a) - Int32.ofInt 1 = nI (3 * a + (kr_fr R a - 1)) := by rw [kr_3, nI_add, show Int32.ofInt 1 = nI 1 from rfl, pk_sub (by omega)]; congr 1; omega
  have loop : ∀ (k i : Nat) (v : Int32), i + k = kr_fr R a - 1 → j ≤ i → v = nI (3 * a + i) → kb_E (kz_Model_remove, 2, [some (.inr (some 33)), some (.inl (nI a)), some (.inl (nI (3 * a + j))), some (.inl v)], [], kr_ri1 R a j i) (fun q => q = (none, kr_rm R a j)) := by
    intro k
    induction k with
    | zero =>
      intro i v hi hji hv
      subst hv
      refine kb_go 60 [2] ?_
      refine And.intro (kb_in_nI ha (by omega)) ?_
      refine And.intro (fun h => ?_) (fun h => ?_)
      · refine And.intro (kb_in_nI ha (by omega)) (And.intro (kb_in_nI ha (by omega)) (And.intro rfl ?_))
        rw [ea, e38, hfr, e1, show i = kr_fr R a - 1 by omega]
        rfl
      · have h := of_decide_eq_false h
        rw [ea, e38, hfr, e2, show i = kr_fr R a - 1 by omega] at h
        exact absurd (Int32.le_refl _) h
    | succ k ih =>
      intro i v hi hji hv
      subst hv
      have hcl : (nI (3 * a + i)).toNatClampNeg = 3 * a + i := nI_clamp (by omega)
      have hcl1 : (nI (3 * a + i) + Int32.ofInt 1).toNatClampNeg = 3 * a + i + 1 := by rw [show Int32.ofInt 1 = nI 1 from rfl, nI_add, nI_clamp (by omega)]
      have hin : kb_in (nI (3 * a + i)) 6 = true := kb_in_nI (by omega) (by omega)
      have hin1 : kb_in (nI (3 * a + i) + Int32.ofInt 1) 6 = true := by rw [show Int32.ofInt 1 = nI 1 from rfl, nI_add]; exact kb_in_nI (by omega) (by omega)
      have r36 : kr_ri1 R a j i 36 (3 * a + i + 1) = R 36 (3 * a + i + 1) := by rw [kr_ri1_36, if_neg (by omega)]
      have r37 : kr_ri1 R a j i 37 (3 * a + i + 1) = R 37 (3 * a + i + 1) := by rw [kr_ri1_37, if_neg (by omega)]
      refine kb_go 60 [2] ?_
      refine And.intro (kb_in_nI ha (by omega)) ?_
      refine And.intro (fun h => ?_) (fun _ => ?_)
      · have h := of_decide_eq_true h
        rw [ea, e38, hfr, e2, nI_leI (by omega) (by omega)] at h
        omega
      · refine And.intro hin1 (And.intro hin (And.intro hin1 (And.intro ?_ ?_)))
        · rw [hin, hcl, hcl1, kb_up_ne _ _ _ (by decide), r37, kr_01 (hR.2.2.2.2 _ (by omega))]
          rfl
        · have h3 := ih (i + 1) _ (by omega) (by omega) (nI_succ (3 * a + i)).symm
          rw [← kr_ri1_s hji, ← r36] at h3
          have e5 : (kb_up (kr_ri1 R a j i) 36 (3 * a + i) ((kr_ri1 R a j i) 36 (3 * a + i + 1))) 37 (3 * a + i + 1) = R 37 (3 * a + i + 1) := by rw [kb_up_ne _ _ _ (by decide), r37]
          rw [← e5] at h3
          show kb_E (_, _, _, _, kb_up (kb_up (kr_ri1 R a j i) 36 (nI (3 * a + i)).toNatClampNeg ((kr_ri1 R a j i) 36 (nI (3 * a + i) + Int32.ofInt 1).toNatClampNeg)) 37 (nI (3 * a + i)).toNatClampNeg ((kb_up (kr_ri1 R a j i) 36 (nI (3 * a + i)).toNatClampNeg ((kr_ri1 R a j i) 36 (nI (3 * a + i) + Int32.ofInt 1).toNatClampNeg)) 37 (nI (3 * a + i) + Int32.ofInt 1).toNatClampNeg)) _
          rw [hcl, hcl1]
          exact h3
  have h0 := loop (kr_fr R a - 1 - j) j _ (by omega) (Nat.le_refl _) rfl
  rw [kr_ri1_0] at h0
  exact kb_go 20 [2] h0
/-- a part comes last -/
def kr_ad (R : kb_M) (a : Nat) (p d : Int32) : kb_M := kb_up (kb_up (kb_up R 36 (3 * a + kr_fr R a) p) 37 (3 * a + kr_fr R a) d) 38 a (R 38 a + 1)
set_option maxRecDepth 100000 in
theorem cr_add {R : kb_M} (hR : kr_ok R) {a : Nat} (ha : a < 2) (hn : kr_fr R a < 3) (p : Int32) {d : Int32} (hd : d = 0 ∨ d = 1) : kb_E (kb_en kz_Model_add [.inr (some 33), .inl (nI a), .inl p, .inl d] R) (fun q => q = (none, kr_ad R a p d)) := by
  obtain ⟨hfr, hle⟩ := hR.2.2.1 a ha
  have ea : (nI a).toNatClampNeg = a := nI_clamp (by omega)
  have hx : Int32.ofInt 3 * nI a + R 38 (nI a).toNatClampNeg = nI (3 * a + kr_fr R a) := by rw [ea, hfr, kr_3, nI_add]
  have hcl : (nI (3 * a + kr_fr R a)).toNatClampNeg = 3 * a + kr_fr R a := nI_clamp (by omega)
  refine kb_go 60 [] ?_
  refine And.intro (kb_in_nI ha (by omega)) ?_
  refine And.intro (by rw [hx]; exact kb_in_nI (by omega) (by omega)) ?_
  refine And.intro (by rw [hx, kb_in_nI (by omega) (by omega), kr_01 hd]; rfl) ?_
  refine And.intro (kb_in_nI ha (by omega)) (And.intro (kb_in_nI ha (by omega)) (And.intro rfl ?_))
  rw [hx, hcl, ea, kb_up_ne _ _ _ (by decide), kb_up_ne _ _ _ (by decide)]
  rfl
/-- place j's words go to their block, if changed -/
def kr_so (R : kb_M) (j : Nat) : kb_M := kb_up (kb_up R 33 1 (if R 37 j = 0 then R 33 1 else R 33 1 + 1)) 37 j 0
set_option maxRecDepth 100000 in
theorem cr_storeAt (R : kb_M) {j : Nat} (hj : j < 6) : kb_E (kb_en kz_Model_storeAt [.inr (some 33), .inl (nI j)] R) (fun q => q = (none, kr_so R j)) := by
  have hcl : (nI j).toNatClampNeg = j := nI_clamp (by omega)
  refine kb_go 60 [] ?_
  refine And.intro (kb_in_nI hj (by omega)) ?_
  unfold kr_so
  refine And.intro (fun h => ?_) (fun h => ?_)
  · have h := of_decide_eq_true h
    rw [hcl] at h
    rw [if_pos h]
    refine And.intro (by rw [kb_in_nI hj (by omega)]; rfl) (And.intro rfl ?_)
    rw [hcl]
    rfl
  · have h := of_decide_eq_false h
    rw [hcl] at h
    rw [if_neg h]
    refine And.intro (by rw [kb_in_nI hj (by omega)]; rfl) (And.intro rfl ?_)
    rw [hcl]
    rfl
theorem kr_bool_up {R : kb_M} (h : ∀ j, j < 6 → R 37 j = 0 ∨ R 37 j = 1) {k : Nat} {d : Int32} (hd : d = 0 ∨ d = 1) : ∀ j, j < 6 → upd (R 37) k d j = 0 ∨ upd (R 37) k d j = 1 := by
  intro j hj
  unfold upd
  by_cases hk : j = k
  · rw [if_pos hk]; exact hd
  · rw [if_neg hk]; exact h j hj
theorem kr_so_ok {R : kb_M} (hR : kr_ok R) (j : Nat) : kr_ok (kr_so R j) := by
  obtain ⟨h1, h2, h3, h4, h5⟩ := hR
  unfold kr_ok kr_bd kr_sz kr_fr kr_so
  rw [kb_up_ne _ _ _ (show (39 : Nat) ≠ 37 by decide), kb_up_ne _ _ _ (show (39 : Nat) ≠ 33 by decide), kb_up_ne _ _ _ (show (35 : Nat) ≠ 37 by decide), kb_up_ne _ _ _ (show (35 : Nat) ≠ 33 by decide), kb_up_ne _ _ _ (show (38 : Nat) ≠ 37 by decide), kb_up_ne _ _ _ (show (38 : Nat) ≠ 33 by decide), kb_up_ne _ _ _ (show (41 : Nat) ≠ 37 by decide), kb_up_ne _ _ _ (show (41 : Nat) ≠ 33 by decide), kb_up_at, kb_up_ne _ _ _ (show (37 : Nat) ≠ 33 by decide)]
  exact ⟨h1, h2, h3, h4, kr_bool_up h5 (Or.inl rfl)⟩
theorem kr_fr_up {R : kb_M} {a : Nat} {m : Nat} (hm : m ≤ 3) (h : ∀ a, a < 2 → R 38 a = nI (kr_fr R a) ∧ kr_fr R a ≤ 3) : ∀ c, c < 2 → upd (R 38) a (nI m) c = nI (upd (R 38) a (nI m) c).toNatClampNeg ∧ (upd (R 38) a (nI m) c).toNatClampNeg ≤ 3 := by
  intro c hc
  unfold upd
  by_cases hk : c = a
  · rw [if_pos hk, nI_clamp (by omega)]; exact ⟨rfl, hm⟩
  · rw [if_neg hk]; exact h c hc
theorem kr_rm_ok {R : kb_M} (hR : kr_ok R) {a j : Nat} (ha : a < 2) (hj : j < kr_fr R a) : kr_ok (kr_rm R a j) ∧ kr_fr (kr_rm R a j) a = kr_fr R a - 1 := by
  obtain ⟨h1, h2, h3, h4, h5⟩ := hR
  have hle := (h3 a ha).2
  have e38 : (kr_rm R a j) 38 = upd (R 38) a (nI (kr_fr R a - 1)) := by unfold kr_rm; rw [kb_up_at, kr_ri1_ne _ _ _ _ (by decide) (by decide)]
  have en : ∀ k, k ≠ 36 → k ≠ 37 → k ≠ 38 → (kr_rm R a j) k = R k := fun k g1 g2 g3 => by unfold kr_rm; rw [kb_up_ne _ _ _ g3, kr_ri1_ne _ _ _ _ g1 g2]
  have e37 : ∀ q, (kr_rm R a j) 37 q = if 3 * a + j ≤ q ∧ q < 3 * a + (kr_fr R a - 1) then R 37 (q + 1) else R 37 q := fun q => by unfold kr_rm; rw [kb_up_ne _ _ _ (by decide), kr_ri1_37]
  refine ⟨?_, ?_⟩
  · unfold kr_ok kr_bd kr_sz
    rw [en 39 (by decide) (by decide) (by decide), en 35 (by decide) (by decide) (by decide), en 41 (by decide) (by decide) (by decide)]
    refine ⟨h1, h2, ?_, h4, fun q hq => ?_⟩
    · unfold kr_fr
      rw [e38]
      exact kr_fr_up (by omega) h3
    · rw [e37]
      split
      next hc => exact h5 _ (by omega)
      next => exact h5 _ hq
  · unfold kr_fr
    rw [e38, show upd (R 38) a (nI (kr_fr R a - 1)) a = nI (kr_fr R a - 1) from pk_us, nI_clamp (by omega)]
theorem kr_ad_ok {R : kb_M} (hR : kr_ok R) {a : Nat} (ha : a < 2) (hn : kr_fr R a < 3) {p d : Int32} (hd : d = 0 ∨ d = 1) : kr_ok (kr_ad R a p d) ∧ kr_fr (kr_ad R a p d) a = kr_fr R a + 1 := by
  obtain ⟨h1, h2, h3, h4, h5⟩ := hR
  have e38 : (kr_ad R a p d) 38 = upd (R 38) a (nI (kr_fr R a + 1)) := by unfold kr_ad; rw [kb_up_at, kb_up_ne _ _ _ (by decide), kb_up_ne _ _ _ (by decide), nI_succ, ← (h3 a ha).1]
  have en : ∀ k, k ≠ 36 → k ≠ 37 → k ≠ 38 → (kr_ad R a p d) k = R k := fun k g1 g2 g3 => by unfold kr_ad; rw [kb_up_ne _ _ _ g3, kb_up_ne _ _ _ g2, kb_up_ne _ _ _ g1]
  have e37 : (kr_ad R a p d) 37 = upd (R 37) (3 * a + kr_fr R a) d := by unfold kr_ad; rw [kb_up_ne _ _ _ (by decide), kb_up_at, kb_up_ne _ _ _ (by decide)]
  refine ⟨?_, ?_⟩
  · unfold kr_ok kr_bd kr_sz
    rw [en 39 (by decide) (by decide) (by decide), en 35 (by decide) (by decide) (by decide), en 41 (by decide) (by decide) (by decide)]
    refine ⟨h1, h2, ?_, h4, ?_⟩
    · unfold kr_fr
      rw [e38]
      exact kr_fr_up (by omega) h3
    · rw [e37]
      exact kr_bool_up h5 hd
  · unfold kr_fr
    rw [e38, show upd (R 38) a (nI (kr_fr R a + 1)) a = nI (kr_fr R a + 1) from pk_us, nI_clamp (by omega)]
theorem kr_mv_ne (R : kb_M) (t : Int32) {k : Nat} (h0 : k ≠ 33) (h1 : k ≠ 40) (h2 : k ≠ 42) : kr_mv R t k = R k := by
  unfold kr_mv kr_m0
  rw [kr_mg_ne _ _ _ _ h1 h2, kr_mg_ne _ _ _ _ h1 h2, kb_up_ne _ _ _ h0]
theorem kr_cm_ne (R : kb_M) (b : Nat) {k : Nat} (h0 : k ≠ 33) (h1 : k ≠ 40) (h2 : k ≠ 42) (h3 : k ≠ 43) : kr_cm R b k = R k := by
  unfold kr_cm
  split
  next => rw [kr_mv_ne _ _ h0 h1 h2, kr_wi_ne _ _ h2 h3]
  next => rfl
theorem kr_cm_ok {R : kb_M} (hR : kr_ok R) (b : Nat) : kr_ok (kr_cm R b) := kr_ok_eq hR (kr_cm_ne R b (by decide) (by decide) (by decide) (by decide)) (kr_cm_ne R b (by decide) (by decide) (by decide) (by decide)) (kr_cm_ne R b (by decide) (by decide) (by decide) (by decide)) (kr_cm_ne R b (by decide) (by decide) (by decide) (by decide)) (kr_cm_ne R b (by decide) (by decide) (by decide) (by decide))
/-- part p of application a is used -/
def kr_o1 (R : kb_M) (a : Nat) : kb_M := if kr_fr R a = 3 then kr_rm (kr_so R (3 * a)) a 0 else kr_cm R 0
def kr_o2 (R : kb_M) (a : Nat) : kb_M := kb_up (kr_o1 R a) 33 2 ((kr_o1 R a) 33 2 + 1)
def kr_op (R : kb_M) (a p : Nat) : kb_M := match kr_fi R a (nI p) (kr_fr R a) with
  | some j => kr_ad (kr_rm R a j) a (nI p) (R 37 (3 * a + j))
  | none => kr_ad (kr_o2 R a) a (nI p) 0
theorem kr_so_fr (R : kb_M) (j a : Nat) : kr_fr (kr_so R j) a = kr_fr R a := by
  unfold kr_fr kr_so
  rw [kb_up_ne _ _ _ (by decide), kb_up_ne _ _ _ (by decide)]
theorem kr_o2_ok {R : kb_M} (hR : kr_ok R) {a : Nat} (ha : a < 2) : kr_ok (kr_o2 R a) ∧ kr_fr (kr_o2 R a) a < 3 := by
  have hle := (hR.2.2.1 a ha).2
  have h1 : kr_ok (kr_o1 R a) ∧ kr_fr (kr_o1 R a) a < 3 := by
    unfold kr_o1
    by_cases h3 : kr_fr R a = 3
    · rw [if_pos h3]
      have h := kr_rm_ok (kr_so_ok hR (3 * a)) (j := 0) ha (by rw [kr_so_fr]; omega)
      exact ⟨h.1, by rw [h.2, kr_so_fr]; omega⟩
    · rw [if_neg h3]
      refine ⟨kr_cm_ok hR 0, ?_⟩
      unfold kr_fr
      rw [kr_cm_ne R 0 (by decide) (by decide) (by decide) (by decide)]
      have : kr_fr R a < 3 := by omega
      exact this
  refine ⟨kr_ok_eq h1.1 ?_ ?_ ?_ ?_ ?_, ?_⟩
  · exact kb_up_ne _ _ _ (by decide)
  · exact kb_up_ne _ _ _ (by decide)
  · exact kb_up_ne _ _ _ (by decide)
  · exact kb_up_ne _ _ _ (by decide)
  · exact kb_up_ne _ _ _ (by decide)
  · have h2 := h1.2
    unfold kr_fr kr_o2 at *
    rw [kb_up_ne _ _ _ (by decide)]
    exact h2
theorem kr_op_ok {R : kb_M} (hR : kr_ok R) {a : Nat} (ha : a < 2) (p : Nat) : kr_ok (kr_op R a p) ∧ 0 < kr_fr (kr_op R a p) a := by
  unfold kr_op
  cases hf : kr_fi R a (nI p) (kr_fr R a) with
  | none =>
    obtain ⟨h1, h2⟩ := kr_o2_ok hR ha
    have h := kr_ad_ok h1 ha h2 (p := nI p) (d := 0) (Or.inl rfl)
    exact ⟨h.1, by show 0 < kr_fr (kr_ad _ a _ _) a; rw [h.2]; omega⟩
  | some j =>
    have hj := (kr_fi_lt hf).1
    have hle := (hR.2.2.1 a ha).2
    obtain ⟨h1, h2⟩ := kr_rm_ok hR ha hj
    have h := kr_ad_ok h1 ha (by omega) (p := nI p) (hR.2.2.2.2 (3 * a + j) (by omega))
    exact ⟨h.1, by show 0 < kr_fr (kr_ad _ a _ _) a; rw [h.2]; omega⟩
set_option maxRecDepth 100000 in
theorem cr_open {R : kb_M} (hR : kr_ok R) {a f i : Nat} (ha : a < 2) (hf : f < 6) (hi : i < 24) : kb_E (kb_en kz_Model_open [.inr (some 33), .inl (nI a), .inl (nI f), .inl (nI i)] R) (fun q => q = (none, kr_op R a (6 * f + i / 4))) := by
  have hle := (hR.2.2.1 a ha).2
  have ea : (nI a).toNatClampNeg = a := nI_clamp (by omega)
  have hp : (Int8.ofInt 6).toInt32 * nI f + nI i / Int32.ofInt 4 = nI (6 * f + i / 4) := by rw [show Int32.ofInt 4 = nI 4 from rfl, pk_div (by omega) (by omega) (by omega), kr_6 hf]
  have hfd := cr_find hR ha (nI (6 * f + i / 4))
  refine kb_go 80 [] ?_
  refine And.intro rfl ?_
  rw [← hp] at hfd
  refine kb_E_to hfd ?_
  rw [hp]
  unfold kr_op
  cases hl : kr_fi R a (nI (6 * f + i / 4)) (kr_fr R a) with
  | some j =>
    have hj := (kr_fi_lt hl).1
    have hcl : (nI (3 * a + j)).toNatClampNeg = 3 * a + j := nI_clamp (by omega)
    obtain ⟨o1, o2⟩ := kr_rm_ok hR ha hj
    refine And.intro (fun h => absurd (of_decide_eq_true h) (nI_pos (by omega))) (fun _ => ?_)
    refine And.intro (kb_in_nI (by omega) (by omega)) ?_
    refine kb_E_to (cr_remove hR ha hj) ?_
    have h4 := cr_add o1 ha (by omega) (nI (6 * f + i / 4)) (hR.2.2.2.2 (3 * a + j) (by omega))
    rw [← hcl] at h4
    refine kb_E_to h4 ?_
    rw [hcl]
    exact And.intro rfl rfl
  | none =>
    refine And.intro (fun _ => ?_) (fun h => absurd (show decide ((-1 : Int32) < 0) = false from h) (by decide))
    refine And.intro (kb_in_nI ha (by omega)) ?_
    obtain ⟨o1, o2⟩ := kr_o2_ok hR ha
    have h4 := cr_add o1 ha o2 (nI (6 * f + i / 4)) (d := 0) (Or.inl rfl)
    unfold kr_o2 kr_o1 at h4 ⊢
    refine And.intro (fun h => ?_) (fun h => ?_)
    · have h := of_decide_eq_true h
      have h : ¬ R 38 (nI a).toNatClampNeg = nI 3 := h
      rw [ea, (hR.2.2.1 a ha).1, nI_eq (by omega) (by omega)] at h
      rw [if_neg h] at h4 ⊢
      refine kb_E_to (cr_claim hR (b := 0) (by decide)) ?_
      refine kb_E_to h4 ?_
      exact And.intro rfl rfl
    · have h := Classical.not_not.mp (of_decide_eq_false h)
      have h : R 38 (nI a).toNatClampNeg = nI 3 := h
      rw [ea, (hR.2.2.1 a ha).1, nI_eq (by omega) (by omega)] at h
      rw [if_pos h] at h4 ⊢
      have s1 := cr_storeAt R (j := 3 * a) (by omega)
      rw [← kr_3] at s1
      refine kb_E_to s1 ?_
      have s2 := cr_remove (kr_so_ok hR (3 * a)) (j := 0) ha (by rw [kr_so_fr]; omega)
      rw [Nat.add_zero, ← kr_3] at s2
      refine kb_E_to s2 ?_
      refine kb_E_to h4 ?_
      exact And.intro rfl rfl
/-- word i of file f of application a becomes w -/
def kr_ch (R : kb_M) (a f i : Nat) (w : Int32) : kb_M := kb_up (kb_up (kr_op R a (6 * f + i / 4)) 34 (144 * a + 24 * f + i) w) 37 (3 * a + kr_fr (kr_op R a (6 * f + i / 4)) a - 1) 1
theorem kr_wx {a f : Nat} (i : Nat) : (Int16.ofInt 144).toInt32 * nI a + (Int8.ofInt 24).toInt32 * nI f + nI i = nI (144 * a + 24 * f + i) := by
  rw [show (Int16.ofInt 144).toInt32 = nI 144 from rfl, show (Int8.ofInt 24).toInt32 = nI 24 from rfl, pk_mul, pk_mul, nI_add, nI_add]
set_option maxRecDepth 100000 in
theorem cr_change {R : kb_M} (hR : kr_ok R) {a f i : Nat} (ha : a < 2) (hf : f < 6) (hi : i < 24) (w : Int32) : kb_E (kb_en kz_Model_change [.inr (some 33), .inl (nI a), .inl (nI f), .inl (nI i), .inl w] R) (fun q => q = (none, kr_ch R a f i w)) := by
  have ea : (nI a).toNatClampNeg = a := nI_clamp (by omega)
  obtain ⟨o1, o2⟩ := kr_op_ok hR ha (6 * f + i / 4)
  obtain ⟨o3, o4⟩ := o1.2.2.1 a ha
  have hx := kr_wx (a := a) (f := f) i
  have hcl : (nI (144 * a + 24 * f + i)).toNatClampNeg = 144 * a + 24 * f + i := nI_clamp (by omega)
  have e38 : (kb_up (kr_op R a (6 * f + i / 4)) 34 (144 * a + 24 * f + i) w) 38 = (kr_op R a (6 * f + i / 4)) 38 := kb_up_ne _ _ _ (by decide)
  have hy : Int32.ofInt 3 * nI a + (kb_up (kr_op R a (6 * f + i / 4)) 34 (144 * a + 24 * f + i) w) 38 (nI a).toNatClampNeg - Int32.ofInt 1 = nI (3 * a + kr_fr (kr_op R a (6 * f + i / 4)) a - 1) := by
    rw [ea, e38, o3, kr_3, nI_add, show Int32.ofInt 1 = nI 1 from rfl, pk_sub (by omega)]
  refine kb_go 60 [] ?_
  refine kb_E_to (cr_open hR ha hf hi) ?_
  refine And.intro (by rw [hx]; exact kb_in_nI (by omega) (by omega)) ?_
  refine And.intro (kb_in_nI ha (by omega)) ?_
  refine And.intro ?_ (And.intro rfl ?_)
  · rw [hx, hcl, hy, kb_in_nI (by omega) (by omega)]
    rfl
  · rw [hx, hcl, hy, nI_clamp (by omega)]
    rfl
end
section
/-! the reference's public methods, first those of the guests -/
theorem kr_tk {v : Int32} {n : Nat} (hn : n < 2 ^ 30) : (0 ≤ v ∧ v ≤ nI n - 1) ↔ ∃ t : Nat, t < n ∧ v = nI t := by
  constructor
  · intro h
    cases n with
    | zero =>
      exfalso
      have h1 : (0 : Int32) ≤ nI 0 - 1 := Int32.le_trans h.1 h.2
      exact absurd h1 (by decide)
    | succ n =>
      rw [nI_pred] at h
      obtain ⟨k, hk, e⟩ := kr_in v (by omega) h
      exact ⟨k, by omega, e⟩
  · rintro ⟨t, ht, rfl⟩
    cases n with
    | zero => omega
    | succ n => rw [nI_pred]; exact kr_out (by omega) (by omega)
theorem kr_gst {v : Int32} (h : 2 ≤ v ∧ v ≤ 3) : ∃ g : Nat, g < 2 ∧ v = nI (2 + g) := by
  have h1 : ¬ v < 0 := fun q => by
    have h2 : (2 : Int32) < 0 := Int32.lt_of_le_of_lt h.1 q
    exact absurd h2 (by decide)
  obtain ⟨k, hk, rfl⟩ := nI_of h1
  have h3 : nI 2 ≤ nI k := h.1
  have h4 : nI k ≤ nI 3 := h.2
  rw [nI_leI (by omega) (by omega)] at h3 h4
  exact ⟨k - 2, by omega, by congr 1; omega⟩
theorem kr_gin {g : Nat} (hg : g < 2) : (2 : Int32) ≤ nI (2 + g) ∧ nI (2 + g) ≤ 3 := by
  match g, hg with
  | 0, _ => decide
  | 1, _ => decide
set_option maxRecDepth 100000 in
theorem cr_live {R : kb_M} (hR : kr_ok R) {g t : Nat} (hg : g < 2) (ht : t < kr_bd R g) : kb_E (kb_en kz_Model_live [.inr (some 33), .inl (nI (2 + g)), .inl (nI t)] R) (fun q => q = (some (.inl (if 2 ≤ R 42 (60 * g + t) then nI (60 * g + t) else -1)), R)) := by
  obtain ⟨hbd, hle⟩ := hR.1 g hg
  have eg := kr_g2 hg
  have eg2 : (nI g).toNatClampNeg = g := nI_clamp (by omega)
  have h1 := cr_within R (nI (2 + g)) 2 3
  rw [if_pos (kr_gin hg)] at h1
  have h2 := cr_within R (nI t) 0 (nI (kr_bd R g) - 1)
  rw [if_pos ((kr_tk (by omega)).mpr ⟨t, ht, rfl⟩), ← hbd] at h2
  rw [show R 39 g = R 39 (nI (2 + g) - Int32.ofInt 2).toNatClampNeg from by rw [eg, eg2]] at h2
  have hx := kr_60 hg t
  have hcl : (nI (60 * g + t)).toNatClampNeg = 60 * g + t := nI_clamp (by omega)
  refine kb_go 60 [] ?_
  refine kb_E_to h1 ?_
  refine And.intro (fun h => absurd h (by decide)) (fun _ => ?_)
  refine And.intro (by rw [eg]; exact kb_in_nI hg (by omega)) ?_
  refine kb_E_to h2 ?_
  refine And.intro (fun _ => ?_) (fun h => absurd h (by decide))
  refine And.intro (by rw [eg, hx]; exact kb_in_nI (by omega) (by omega)) ?_
  refine And.intro (fun h => ?_) (fun h => ?_)
  · have h := of_decide_eq_true h
    rw [eg, hx, hcl] at h
    have h : R 42 (60 * g + t) < 2 := h
    rw [if_neg (Int32.not_le.mpr h)]
    exact And.intro rfl rfl
  · have h := of_decide_eq_false h
    rw [eg, hx, hcl] at h
    have h : ¬ R 42 (60 * g + t) < 2 := h
    rw [if_pos (Int32.not_lt.mp h)]
    refine And.intro rfl ?_
    rw [eg, hx]
set_option maxRecDepth 100000 in
theorem cr_live_t {R : kb_M} (hR : kr_ok R) {g : Nat} (hg : g < 2) {v : Int32} (hv : ¬ ∃ t, t < kr_bd R g ∧ v = nI t) : kb_E (kb_en kz_Model_live [.inr (some 33), .inl (nI (2 + g)), .inl v] R) (fun q => q = (some (.inl (-1)), R)) := by
  obtain ⟨hbd, hle⟩ := hR.1 g hg
  have eg := kr_g2 hg
  have eg2 : (nI g).toNatClampNeg = g := nI_clamp (by omega)
  have h1 := cr_within R (nI (2 + g)) 2 3
  rw [if_pos (kr_gin hg)] at h1
  have h2 := cr_within R v 0 (nI (kr_bd R g) - 1)
  rw [if_neg (fun q => hv ((kr_tk (by omega)).mp q)), ← hbd] at h2
  rw [show R 39 g = R 39 (nI (2 + g) - Int32.ofInt 2).toNatClampNeg from by rw [eg, eg2]] at h2
  refine kb_go 60 [] ?_
  refine kb_E_to h1 ?_
  refine And.intro (fun h => absurd h (by decide)) (fun _ => ?_)
  refine And.intro (by rw [eg]; exact kb_in_nI hg (by omega)) ?_
  refine kb_E_to h2 ?_
  exact And.intro (fun h => absurd h (by decide)) (fun _ => And.intro rfl rfl)
set_option maxRecDepth 100000 in
theorem cr_live_g {R : kb_M} {u : Int32} (hu : ¬ (2 ≤ u ∧ u ≤ 3)) (v : Int32) : kb_E (kb_en kz_Model_live [.inr (some 33), .inl u, .inl v] R) (fun q => q = (some (.inl (-1)), R)) := by
  have h1 := cr_within R u 2 3
  rw [if_neg hu] at h1
  refine kb_go 60 [] ?_
  refine kb_E_to h1 ?_
  exact And.intro (fun _ => And.intro rfl rfl) (fun h => absurd h (by decide))
/-- the live ticket that a guest and a number name, if there is one -/
def kr_lt (R : kb_M) (u v : Int32) : Option Nat := if (2 ≤ u ∧ u ≤ 3) ∧ (0 ≤ v ∧ v ≤ R 39 (u - 2).toNatClampNeg - 1) ∧ 2 ≤ R 42 (60 * (u - 2).toNatClampNeg + v.toNatClampNeg) then some (60 * (u - 2).toNatClampNeg + v.toNatClampNeg) else none
def kr_lw (o : Option Nat) : Int32 := match o with
  | none => -1
  | some j => nI j
theorem cr_liveX {R : kb_M} (hR : kr_ok R) (u v : Int32) : kb_E (kb_en kz_Model_live [.inr (some 33), .inl u, .inl v] R) (fun q => q = (some (.inl (kr_lw (kr_lt R u v))), R)) := by
  unfold kr_lt
  by_cases hu : 2 ≤ u ∧ u ≤ 3
  · obtain ⟨g, hg, rfl⟩ := kr_gst hu
    have eg : (nI (2 + g) - 2).toNatClampNeg = g := by rw [show nI (2 + g) - 2 = nI g from kr_g2 hg, nI_clamp (by omega)]
    obtain ⟨hbd, hle⟩ := hR.1 g hg
    rw [eg, hbd]
    by_cases hv : 0 ≤ v ∧ v ≤ nI (kr_bd R g) - 1
    · obtain ⟨t, ht, rfl⟩ := (kr_tk (by omega)).mp hv
      rw [show (nI t).toNatClampNeg = t from nI_clamp (by omega)]
      have h := cr_live hR hg ht
      by_cases h2 : 2 ≤ R 42 (60 * g + t)
      · rw [if_pos h2] at h
        rw [if_pos ⟨hu, hv, h2⟩]
        exact h
      · rw [if_neg h2] at h
        rw [if_neg (fun q => h2 q.2.2)]
        exact h
    · rw [if_neg (fun q => hv q.2.1)]
      exact cr_live_t hR hg (fun q => hv ((kr_tk (by omega)).mpr q))
  · rw [if_neg (fun q => hu q.1)]
    exact cr_live_g hu v
theorem kr_lt_lt {R : kb_M} (hR : kr_ok R) {u v : Int32} {j : Nat} (h : kr_lt R u v = some j) : ∃ g t, g < 2 ∧ t < kr_bd R g ∧ u = nI (2 + g) ∧ v = nI t ∧ j = 60 * g + t ∧ j < 120 ∧ 2 ≤ R 42 j := by
  unfold kr_lt at h
  split at h
  next hc =>
    obtain ⟨hu, hv, h2⟩ := hc
    obtain ⟨g, hg, rfl⟩ := kr_gst hu
    have eg : (nI (2 + g) - 2).toNatClampNeg = g := by rw [show nI (2 + g) - 2 = nI g from kr_g2 hg, nI_clamp (by omega)]
    obtain ⟨hbd, hle⟩ := hR.1 g hg
    rw [eg, hbd] at hv
    obtain ⟨t, ht, rfl⟩ := (kr_tk (by omega)).mp hv
    rw [eg, show (nI t).toNatClampNeg = t from nI_clamp (by omega)] at h h2
    cases h
    exact ⟨g, t, hg, ht, rfl, rfl, rfl, by omega, h2⟩
  next => cases h
theorem kr_lt_at {R : kb_M} (hR : kr_ok R) {g t : Nat} (hg : g < 2) (ht : t < kr_bd R g) : kr_lt R (nI (2 + g)) (nI t) = if 2 ≤ R 42 (60 * g + t) then some (60 * g + t) else none := by
  have eg : (nI (2 + g) - 2).toNatClampNeg = g := by rw [show nI (2 + g) - 2 = nI g from kr_g2 hg, nI_clamp (by omega)]
  obtain ⟨hbd, hle⟩ := hR.1 g hg
  unfold kr_lt
  rw [eg, hbd, show (nI t).toNatClampNeg = t from nI_clamp (by omega)]
  by_cases h2 : 2 ≤ R 42 (60 * g + t)
  · rw [if_pos h2, if_pos ⟨kr_gin hg, (kr_tk (by omega)).mpr ⟨t, ht, rfl⟩, h2⟩]
  · rw [if_neg h2, if_neg (fun q => h2 q.2.2)]
/-- put -/
def kr_put (R : kb_M) (u v i w : Int32) : kb_R := match kr_lt R u v with
  | none => (some (.inl 0), R)
  | some j => if R 41 j = 0 ∧ 0 ≤ i ∧ i ≤ 3 then (some (.inl 1), kb_up R 44 (4 * j + i.toNatClampNeg) w) else (some (.inl 0), R)
theorem kr_4 (j k : Nat) : Int32.ofInt 4 * nI j + nI k = nI (4 * j + k) := by rw [show Int32.ofInt 4 = nI 4 from rfl, pk_mul, nI_add]
set_option maxRecDepth 100000 in
theorem cr_put {R : kb_M} (hR : kr_ok R) (u v i w : Int32) : kb_E (kb_en kz_Model_put [.inr (some 33), .inl u, .inl v, .inl i, .inl w] R) (fun q => q = kr_put R u v i w) := by
  refine kb_go 60 [] ?_
  refine kb_E_to (cr_liveX hR u v) ?_
  unfold kr_put
  cases hl : kr_lt R u v with
  | none => exact And.intro (fun _ => And.intro rfl rfl) (fun h => absurd (show decide ((-1 : Int32) < 0) = false from h) (by decide))
  | some j =>
    obtain ⟨g, t, hg, ht, -, -, -, hj, -⟩ := kr_lt_lt hR hl
    have hcl : (nI j).toNatClampNeg = j := nI_clamp (by omega)
    rw [show kr_lw (some j) = nI j from rfl]
    refine And.intro (fun h => absurd (of_decide_eq_true h) (nI_pos (by omega))) (fun _ => ?_)
    refine And.intro (kb_in_nI hj (by omega)) ?_
    show _ ∧ _
    refine And.intro (fun h => ?_) (fun h => ?_)
    · have h : ¬ R 41 (nI j).toNatClampNeg = 0 := of_decide_eq_true h
      rw [hcl] at h
      refine And.intro rfl ?_
      show _ = if _ then _ else _
      rw [if_neg (fun q => h q.1)]
      rfl
    · have h : R 41 (nI j).toNatClampNeg = 0 := Classical.not_not.mp (of_decide_eq_false h)
      rw [hcl] at h
      refine kb_E_to (cr_within R i 0 3) ?_
      by_cases hi : 0 ≤ i ∧ i ≤ 3
      · rw [if_pos hi]
        obtain ⟨k, hk, rfl⟩ := kr_in i (n := 3) (by decide) hi
        refine And.intro (fun _ => ?_) (fun h => absurd h (by decide))
        refine And.intro (by rw [kr_4]; exact kb_in_nI (by omega) (by omega)) (And.intro rfl ?_)
        show _ = if _ then _ else _
        rw [if_pos ⟨h, hi⟩, kr_4, nI_clamp (by omega), nI_clamp (by omega)]
        rfl
      · rw [if_neg hi]
        refine And.intro (fun h => absurd h (by decide)) (fun _ => And.intro rfl ?_)
        show _ = if _ then _ else _
        rw [if_neg (fun q => hi q.2)]
        rfl
/-- get -/
def kr_get (R : kb_M) (u v i : Int32) : Int32 := match kr_lt R u v with
  | none => 0
  | some j => if R 41 j = 0 ∧ 0 ≤ i ∧ i ≤ 3 then R 44 (4 * j + i.toNatClampNeg) else 0
set_option maxRecDepth 100000 in
theorem cr_get {R : kb_M} (hR : kr_ok R) (u v i : Int32) : kb_E (kb_en kz_Model_get [.inr (some 33), .inl u, .inl v, .inl i] R) (fun q => q = (some (.inl (kr_get R u v i)), R)) := by
  refine kb_go 60 [] ?_
  refine kb_E_to (cr_liveX hR u v) ?_
  unfold kr_get
  cases hl : kr_lt R u v with
  | none => exact And.intro (fun _ => And.intro rfl rfl) (fun h => absurd (show decide ((-1 : Int32) < 0) = false from h) (by decide))
  | some j =>
    obtain ⟨g, t, hg, ht, -, -, -, hj, -⟩ := kr_lt_lt hR hl
    have hcl : (nI j).toNatClampNeg = j := nI_clamp (by omega)
    rw [show kr_lw (some j) = nI j from rfl]
    refine And.intro (fun h => absurd (of_decide_eq_true h) (nI_pos (by omega))) (fun _ => ?_)
    refine And.intro (kb_in_nI hj (by omega)) ?_
    refine And.intro (fun h => ?_) (fun h => ?_)
    · have h : ¬ R 41 (nI j).toNatClampNeg = 0 := of_decide_eq_true h
      rw [hcl] at h
      refine And.intro rfl ?_
      show _ = (some (Sum.inl (if _ then _ else _)), _)
      rw [if_neg (fun q => h q.1)]
      rfl
    · have h : R 41 (nI j).toNatClampNeg = 0 := Classical.not_not.mp (of_decide_eq_false h)
      rw [hcl] at h
      refine kb_E_to (cr_within R i 0 3) ?_
      by_cases hi : 0 ≤ i ∧ i ≤ 3
      · rw [if_pos hi]
        obtain ⟨k, hk, rfl⟩ := kr_in i (n := 3) (by decide) hi
        refine And.intro (fun _ => ?_) (fun h => absurd h (by decide))
        refine And.intro (by rw [kr_4]; exact kb_in_nI (by omega) (by omega)) (And.intro rfl ?_)
        show _ = (some (Sum.inl (if _ then _ else _)), _)
        rw [if_pos ⟨h, hi⟩, kr_4, nI_clamp (by omega), nI_clamp (by omega)]
      · rw [if_neg hi]
        refine And.intro (fun h => absurd h (by decide)) (fun _ => And.intro rfl ?_)
        show _ = (some (Sum.inl (if _ then _ else _)), _)
        rw [if_neg (fun q => hi q.2)]
        rfl
/-- release -/
def kr_rel (R : kb_M) (u v : Int32) : kb_R := match kr_lt R u v with
  | none => (some (.inl 0), R)
  | some j => (some (.inl 1), kb_up R 42 j 0)
set_option maxRecDepth 100000 in
theorem cr_release {R : kb_M} (hR : kr_ok R) (u v : Int32) : kb_E (kb_en kz_Model_release [.inr (some 33), .inl u, .inl v] R) (fun q => q = kr_rel R u v) := by
  refine kb_go 60 [] ?_
  refine kb_E_to (cr_liveX hR u v) ?_
  unfold kr_rel
  cases hl : kr_lt R u v with
  | none => exact And.intro (fun h => absurd (show decide ((0 : Int32) ≤ -1) = true from h) (by decide)) (fun _ => And.intro rfl rfl)
  | some j =>
    obtain ⟨g, t, hg, ht, -, -, -, hj, -⟩ := kr_lt_lt hR hl
    have hcl : (nI j).toNatClampNeg = j := nI_clamp (by omega)
    refine And.intro (fun _ => ?_) (fun h => absurd (nI_pos' (n := j) (by omega)) (of_decide_eq_false h))
    refine And.intro (kb_in_nI hj (by omega)) (And.intro rfl ?_)
    show (_, kb_up R 42 (nI j).toNatClampNeg _) = _
    rw [hcl]
    rfl
/-- ask -/
def kr_ask (R : kb_M) (u v : Int32) : kb_R := match kr_lt R u v with
  | none => (some (.inl 0), R)
  | some j => if R 42 j = 3 then (some (.inl 0), R) else (some (.inl 1), kr_mk R j)
set_option maxRecDepth 100000 in
theorem cr_ask {R : kb_M} (hR : kr_ok R) (u v : Int32) : kb_E (kb_en kz_Model_ask [.inr (some 33), .inl u, .inl v] R) (fun q => q = kr_ask R u v) := by
  refine kb_go 60 [] ?_
  refine kb_E_to (cr_liveX hR u v) ?_
  unfold kr_ask
  cases hl : kr_lt R u v with
  | none => exact And.intro (fun _ => And.intro rfl rfl) (fun h => absurd (show decide ((-1 : Int32) < 0) = false from h) (by decide))
  | some j =>
    obtain ⟨g, t, hg, ht, -, -, -, hj, -⟩ := kr_lt_lt hR hl
    have hcl : (nI j).toNatClampNeg = j := nI_clamp (by omega)
    rw [show kr_lw (some j) = nI j from rfl]
    refine And.intro (fun h => absurd (of_decide_eq_true h) (nI_pos (by omega))) (fun _ => ?_)
    refine And.intro (kb_in_nI hj (by omega)) ?_
    refine And.intro (fun h => ?_) (fun h => ?_)
    · have h : ¬ R 42 (nI j).toNatClampNeg = 3 := of_decide_eq_true h
      rw [hcl] at h
      refine kb_E_to (cr_mark R hj) (And.intro rfl ?_)
      show _ = if _ then _ else _
      rw [if_neg h]
      rfl
    · have h : R 42 (nI j).toNatClampNeg = 3 := Classical.not_not.mp (of_decide_eq_false h)
      rw [hcl] at h
      refine And.intro rfl ?_
      show _ = if _ then _ else _
      rw [if_pos h]
      rfl
end
section
/-! the reference's public methods, the rest -/
/-- copy: four words from binding j to binding k -/
def kr_c1 (S : kb_M) (j k i : Nat) : kb_M := kb_up S 44 (4 * k + i) (S 44 (4 * j + i))
def kr_cpy (R : kb_M) (j k : Nat) : kb_M := kr_c1 (kr_c1 (kr_c1 (kr_c1 R j k 0) j k 1) j k 2) j k 3
def kr_copy (R : kb_M) (u v w : Int32) : kb_R := match kr_lt R u v, kr_lt R u w with
  | some j, some k => if R 41 j = R 41 k then (some (.inl 0), R) else (some (.inl 1), kr_cpy R j k)
  | _, _ => (some (.inl 0), R)
theorem kr_44 {R : kb_M} {i x : Nat} {v : Int32} (h : x ≠ i) : (kb_up R 44 i v) 44 x = R 44 x := by
  rw [kb_up_at]
  exact pk_un h
set_option maxRecDepth 100000 in
set_option maxHeartbeats 4000000 in
theorem cr_copy {R : kb_M} (hR : kr_ok R) (u v w : Int32) : kb_E (kb_en kz_Model_copy [.inr (some 33), .inl u, .inl v, .inl w] R) (fun q => q = kr_copy R u v w) := by
  refine kb_go 200 [] ?_
  refine kb_E_to (cr_liveX hR u v) ?_
  refine kb_E_to (cr_liveX hR u w) ?_
  unfold kr_copy
  cases hl : kr_lt R u v with
  | none => exact And.intro (fun _ => And.intro rfl rfl) (fun h => absurd (show decide ((-1 : Int32) < 0) = false from h) (by decide))
  | some j =>
    obtain ⟨g, t, hg, ht, -, -, -, hj, -⟩ := kr_lt_lt hR hl
    have hcl : (nI j).toNatClampNeg = j := nI_clamp (by omega)
    rw [show kr_lw (some j) = nI j from rfl]
    refine And.intro (fun h => absurd (of_decide_eq_true h) (nI_pos (by omega))) (fun _ => ?_)
    cases hl2 : kr_lt R u w with
    | none => exact And.intro (fun _ => And.intro rfl rfl) (fun h => absurd (show decide ((-1 : Int32) < 0) = false from h) (by decide))
    | some k =>
      obtain ⟨g2, t2, hg2, ht2, -, -, -, hk, -⟩ := kr_lt_lt hR hl2
      have hck : (nI k).toNatClampNeg = k := nI_clamp (by omega)
      rw [show kr_lw (some k) = nI k from rfl]
      refine And.intro (fun h => absurd (of_decide_eq_true h) (nI_pos (by omega))) (fun _ => ?_)
      refine And.intro (kb_in_nI hj (by omega)) ?_
      refine And.intro (kb_in_nI hk (by omega)) ?_
      refine And.intro (fun h => ?_) (fun h => ?_)
      · have h := of_decide_eq_true h
        rw [hcl, hck] at h
        have hjk : j ≠ k := fun q => h (by rw [q])
        have ex : ∀ (m i : Nat), m < 120 → i < 4 → (Int32.ofInt 4 * nI m + nI i).toNatClampNeg = 4 * m + i := fun m i hm hi => by rw [kr_4, nI_clamp (by omega)]
        have ei : ∀ (m i : Nat), m < 120 → i < 4 → kb_in (Int32.ofInt 4 * nI m + nI i) 480 = true := fun m i hm hi => by rw [kr_4]; exact kb_in_nI (by omega) (by omega)
        refine And.intro (fun h => absurd h (by decide)) (fun _ => And.intro (ei j 0 hj (by decide)) (And.intro (ei k 0 hk (by decide)) ?_))
        refine And.intro (fun h => absurd h (by decide)) (fun _ => And.intro (ei j 1 hj (by decide)) (And.intro (ei k 1 hk (by decide)) ?_))
        refine And.intro (fun h => absurd h (by decide)) (fun _ => And.intro (ei j 2 hj (by decide)) (And.intro (ei k 2 hk (by decide)) ?_))
        refine And.intro (fun h => absurd h (by decide)) (fun _ => And.intro (ei j 3 hj (by decide)) (And.intro (ei k 3 hk (by decide)) ?_))
        refine And.intro (fun _ => And.intro rfl ?_) (fun h => absurd h (by decide))
        show _ = if _ then _ else _
        rw [if_neg h]
        refine congrArg (Prod.mk _) ?_
        unfold kr_cpy kr_c1
        rw [← ex j 0 hj (by decide), ← ex j 1 hj (by decide), ← ex j 2 hj (by decide), ← ex j 3 hj (by decide), ← ex k 0 hk (by decide), ← ex k 1 hk (by decide), ← ex k 2 hk (by decide), ← ex k 3 hk (by decide)]
        rfl
      · have h := Classical.not_not.mp (of_decide_eq_false h)
        rw [hcl, hck] at h
        refine And.intro rfl ?_
        show _ = if _ then _ else _
        rw [if_pos h]
        rfl
set_option maxRecDepth 100000 in
theorem cr_time (R : kb_M) : kb_E (kb_en kz_Model_time [.inr (some 33)] R) (fun q => q = (some (.inl (R 33 0)), R)) := by
  refine kb_go 20 [] ?_
  exact And.intro rfl rfl
set_option maxRecDepth 100000 in
theorem cr_transfers (R : kb_M) (b : Int32) : kb_E (kb_en kz_Model_transfers [.inr (some 33), .inl b] R) (fun q => q = (some (.inl (if b = 0 then R 33 2 else R 33 1)), R)) := by
  refine kb_go 20 [] ?_
  refine And.intro (fun h => ?_) (fun h => ?_)
  · have h := of_decide_eq_true h
    rw [if_pos h]
    exact And.intro rfl rfl
  · have h := of_decide_eq_false h
    rw [if_neg h]
    exact And.intro rfl rfl
theorem kr_env {v : Int32} (h : 0 ≤ v ∧ v ≤ 3) : ∃ e : Nat, e < 4 ∧ v = nI e := by
  obtain ⟨k, hk, e⟩ := kr_in v (n := 3) (by decide) h
  exact ⟨k, by omega, e⟩
set_option maxRecDepth 100000 in
theorem cr_losses {R : kb_M} (v : Int32) : kb_E (kb_en kz_Model_losses [.inr (some 33), .inl v] R) (fun q => q = (some (.inl (if 0 ≤ v ∧ v ≤ 3 then (if v < 2 then 0 else R 40 (v - 2).toNatClampNeg) else -1)), R)) := by
  have h1 := cr_within R v 0 3
  refine kb_go 40 [] ?_
  refine kb_E_to h1 ?_
  by_cases hv : 0 ≤ v ∧ v ≤ 3
  · rw [if_pos hv, if_pos hv]
    obtain ⟨e, he, rfl⟩ := kr_env hv
    refine And.intro (fun _ => ?_) (fun h => absurd h (by decide))
    refine And.intro (fun h => ?_) (fun h => ?_)
    · have h : 2 ≤ nI e := of_decide_eq_true h
      rw [if_neg (Int32.not_lt.mpr h)]
      have h2 : nI 2 ≤ nI e := h
      rw [nI_leI (by omega) (by omega)] at h2
      refine And.intro ?_ (And.intro rfl rfl)
      rw [show Int32.ofInt 2 = nI 2 from rfl, pk_sub h2]
      exact kb_in_nI (by omega) (by omega)
    · have h : ¬ 2 ≤ nI e := of_decide_eq_false h
      rw [if_pos (Int32.not_le.mp h)]
      exact And.intro rfl rfl
  · rw [if_neg hv, if_neg hv]
    exact And.intro (fun h => absurd h (by decide)) (fun _ => And.intro rfl rfl)
set_option maxRecDepth 100000 in
theorem cr_held {R : kb_M} (hR : kr_ok R) (v : Int32) {b : Nat} (hb : b < 2) : kb_E (kb_en kz_Model_held [.inr (some 33), .inl v, .inl (nI b)] R) (fun q => q = (some (.inl (if 0 ≤ v ∧ v ≤ 3 then nI (kr_c R v.toNatClampNeg b) else -1)), R)) := by
  have h1 := cr_within R v 0 3
  refine kb_go 40 [] ?_
  refine kb_E_to h1 ?_
  by_cases hv : 0 ≤ v ∧ v ≤ 3
  · rw [if_pos hv, if_pos hv]
    obtain ⟨e, he, rfl⟩ := kr_env hv
    rw [nI_clamp (by omega)]
    refine And.intro (fun h => absurd h (by decide)) (fun _ => ?_)
    exact kb_E_to (cr_count hR he hb) (And.intro rfl rfl)
  · rw [if_neg hv, if_neg hv]
    exact And.intro (fun _ => And.intro rfl rfl) (fun h => absurd h (by decide))
set_option maxRecDepth 100000 in
theorem cr_pass {R : kb_M} (hR : kr_ok R) (n : Int32) : kb_E (kb_en kz_Model_pass [.inr (some 33), .inl n] R) (fun q => q = if 1 ≤ n ∧ n ≤ 50 then (some (.inl (nI (kr_k R (R 33 0 + n) 0 (kr_bd R 0) + kr_k R (R 33 0 + n) 1 (kr_bd R 1)))), kr_mv R (R 33 0 + n)) else (some (.inl (-1)), R)) := by
  have h1 := cr_within R n 1 50
  refine kb_go 40 [] ?_
  refine kb_E_to h1 ?_
  by_cases hv : 1 ≤ n ∧ n ≤ 50
  · rw [if_pos hv, if_pos hv]
    refine And.intro (fun h => absurd h (by decide)) (fun _ => ?_)
    exact kb_E_to (cr_moveTo hR _) (And.intro rfl rfl)
  · rw [if_neg hv, if_neg hv]
    exact And.intro (fun _ => And.intro rfl rfl) (fun h => absurd h (by decide))
set_option maxRecDepth 100000 in
theorem cr_state {R : kb_M} (hR : kr_ok R) (u v : Int32) : kb_E (kb_en kz_Model_state [.inr (some 33), .inl u, .inl v] R) (fun q => q = (some (.inl (if (2 ≤ u ∧ u ≤ 3) ∧ (0 ≤ v ∧ v ≤ R 39 (u - 2).toNatClampNeg - 1) then R 42 (60 * (u - 2).toNatClampNeg + v.toNatClampNeg) else -1)), R)) := by
  have h1 := cr_within R u 2 3
  refine kb_go 40 [] ?_
  refine kb_E_to h1 ?_
  by_cases hu : 2 ≤ u ∧ u ≤ 3
  · rw [if_pos hu]
    obtain ⟨g, hg, rfl⟩ := kr_gst hu
    have eg2 : (nI g).toNatClampNeg = g := nI_clamp (by omega)
    have eg : nI (2 + g) - 2 = nI g := kr_g2 hg
    obtain ⟨hbd, hle⟩ := hR.1 g hg
    refine And.intro (fun h => absurd h (by decide)) (fun _ => ?_)
    refine And.intro (by rw [kr_g2 hg]; exact kb_in_nI hg (by omega)) ?_
    refine kb_E_to (cr_within R v 0 _) ?_
    have eb : R 39 (nI (2 + g) - Int32.ofInt 2).toNatClampNeg - Int32.ofInt 1 = nI (kr_bd R g) - 1 := by rw [kr_g2 hg, eg2, hbd]; rfl
    rw [eb]
    by_cases hv : 0 ≤ v ∧ v ≤ nI (kr_bd R g) - 1
    · rw [if_pos hv]
      obtain ⟨t, ht, rfl⟩ := (kr_tk (by omega)).mp hv
      refine And.intro (fun _ => ?_) (fun h => absurd h (by decide))
      rw [if_pos ⟨hu, by rw [eg, eg2, hbd]; exact hv⟩]
      refine And.intro (by rw [kr_g2 hg, kr_60 hg]; exact kb_in_nI (by omega) (by omega)) (And.intro rfl ?_)
      rw [kr_g2 hg, kr_60 hg, nI_clamp (by omega), eg, eg2, nI_clamp (by omega)]
    · rw [if_neg hv]
      rw [if_neg (fun q => hv (by rw [eg, eg2, hbd] at q; exact q.2))]
      exact And.intro (fun h => absurd h (by decide)) (fun _ => And.intro rfl rfl)
  · rw [if_neg hu, if_neg (fun q => hu q.1)]
    exact And.intro (fun _ => And.intro rfl rfl) (fun h => absurd h (by decide))
end
section
/-! the reference: bind, and the files' public methods -/
/-- guest g gets one more binding, of kind b -/
def kr_bi (R : kb_M) (g : Nat) (b : Int32) : kb_M := kb_up (kb_ro (kb_up (kb_up R 41 (60 * g + kr_bd R g) b) 42 (60 * g + kr_bd R g) 2) 44 (fun q => if q / 4 = 60 * g + kr_bd R g then 0 else R 44 q)) 39 g (nI (kr_bd R g + 1))
def kr_bind (R : kb_M) (g b : Nat) : kb_R := if kr_bd R g = 60 then (some (.inl (-1)), R) else if kr_f R b = 0 then (if 3 + 3 * b ≤ kr_l R g (nI b) (kr_bd R g) then (some (.inl (-2)), R) else (some (.inl (-3)), kr_wi R (nI b))) else (some (.inl (nI (kr_bd R g))), kr_bi R g (nI b))
set_option maxRecDepth 100000 in
theorem cr_bind_no {R : kb_M} {u : Int32} (hu : ¬ (2 ≤ u ∧ u ≤ 3)) (b : Int32) : kb_E (kb_en kz_Model_bind [.inr (some 33), .inl u, .inl b] R) (fun q => q = (some (.inl (-1)), R)) := by
  have h1 := cr_within R u 2 3
  rw [if_neg hu] at h1
  refine kb_go 60 [] ?_
  refine kb_E_to h1 ?_
  exact And.intro (fun _ => And.intro rfl rfl) (fun h => absurd h (by decide))
set_option maxRecDepth 100000 in
set_option maxHeartbeats 4000000 in
theorem cr_bind {R : kb_M} (hR : kr_ok R) {g b : Nat} (hg : g < 2) (hb : b < 2) : kb_E (kb_en kz_Model_bind [.inr (some 33), .inl (nI (2 + g)), .inl (nI b)] R) (fun q => q = kr_bind R g b) := by
  have h1 := cr_within R (nI (2 + g)) 2 3
  rw [if_pos (kr_gin hg)] at h1
  obtain ⟨hbd, hle⟩ := hR.1 g hg
  have eg := kr_g2 hg
  have eg2 : (nI g).toNatClampNeg = g := nI_clamp (by omega)
  have hgi : kb_in (nI (2 + g) - Int32.ofInt 2) 2 = true := by rw [eg]; exact kb_in_nI hg (by omega)
  refine kb_go 200 [] ?_
  refine kb_E_to h1 ?_
  refine And.intro (fun h => absurd h (by decide)) (fun _ => ?_)
  refine And.intro hgi ?_
  unfold kr_bind
  refine And.intro (fun h => ?_) (fun h => ?_)
  · have h := of_decide_eq_true h
    rw [eg, eg2, hbd] at h
    have h : ¬ nI (kr_bd R g) = nI 60 := h
    rw [nI_eq (by omega) (by omega)] at h
    rw [if_neg h]
    refine kb_E_to (cr_free hR hb) ?_
    refine And.intro (fun h2 => ?_) (fun h2 => ?_)
    · have h2 := of_decide_eq_true h2
      rw [if_neg h2]
      have hx := kr_60 hg (kr_bd R g)
      have ej : (Int8.ofInt 60).toInt32 * (nI (2 + g) - Int32.ofInt 2) + R 39 (nI (2 + g) - Int32.ofInt 2).toNatClampNeg = nI (60 * g + kr_bd R g) := by rw [eg, eg2, hbd, hx]
      have hcl : (nI (60 * g + kr_bd R g)).toNatClampNeg = 60 * g + kr_bd R g := nI_clamp (by omega)
      have hin : kb_in (nI (60 * g + kr_bd R g)) 120 = true := kb_in_nI (by omega) (by omega)
      have hbb : nI b = 0 ∨ nI b = 1 := by
        match b, hb with
        | 0, _ => exact Or.inl rfl
        | 1, _ => exact Or.inr rfl
      have ex : ∀ i : Nat, i < 4 → (Int32.ofInt 4 * nI (60 * g + kr_bd R g) + nI i).toNatClampNeg = (60 * g + kr_bd R g) * 4 + i := fun i hi => by rw [kr_4, nI_clamp (by omega)]; omega
      have ei : ∀ i : Nat, i < 4 → kb_in (Int32.ofInt 4 * ((Int8.ofInt 60).toInt32 * (nI (2 + g) - Int32.ofInt 2) + R 39 (nI (2 + g) - Int32.ofInt 2).toNatClampNeg) + nI i) 480 = true := fun i hi => by rw [ej, kr_4]; exact kb_in_nI (by omega) (by omega)
      refine And.intro hgi ?_
      refine And.intro (by rw [ej, hin, kr_01 hbb]; rfl) ?_
      refine And.intro (by rw [ej]; exact hin) ?_
      refine And.intro (fun h => absurd h (by decide)) (fun _ => And.intro (ei 0 (by decide)) ?_)
      refine And.intro (fun h => absurd h (by decide)) (fun _ => And.intro (ei 1 (by decide)) ?_)
      refine And.intro (fun h => absurd h (by decide)) (fun _ => And.intro (ei 2 (by decide)) ?_)
      refine And.intro (fun h => absurd h (by decide)) (fun _ => And.intro (ei 3 (by decide)) ?_)
      refine And.intro (fun _ => ?_) (fun h => absurd h (by decide))
      refine And.intro hgi (And.intro rfl ?_)
      rw [ej, eg, eg2, hbd, hcl]
      have hz := kp_zero (kb_up (kb_up R 41 (60 * g + kr_bd R g) (nI b)) 42 (60 * g + kr_bd R g) 2) 44 (60 * g + kr_bd R g)
      rw [← ex 0 (by decide), ← ex 1 (by decide), ← ex 2 (by decide), ← ex 3 (by decide)] at hz
      have e44 : (kb_up (kb_up R 41 (60 * g + kr_bd R g) (nI b)) 42 (60 * g + kr_bd R g) 2) 44 = R 44 := by rw [kb_up_ne _ _ _ (by decide), kb_up_ne _ _ _ (by decide)]
      rw [e44] at hz
      unfold kr_bi
      rw [← hz, nI_succ (kr_bd R g)]
      rfl
    · have h2 := Classical.not_not.mp (of_decide_eq_false h2)
      rw [if_pos h2]
      refine kb_E_to (cr_liveOf hR hg (nI b)) ?_
      have hl := kr_l_le R g (nI b) (kr_bd R g)
      match b, hb with
      | 0, _ =>
        refine And.intro (fun _ => ?_) (fun h => absurd h (by decide))
        refine And.intro (fun h3 => ?_) (fun h3 => ?_)
        · have h3 : nI (kr_l R g (nI 0) (kr_bd R g)) < nI 3 := of_decide_eq_true h3
          rw [nI_ltI (by omega) (by omega)] at h3
          rw [if_neg (by omega)]
          exact kb_E_to (cr_wish hR (nI 0)) (And.intro rfl rfl)
        · have h3 : ¬ nI (kr_l R g (nI 0) (kr_bd R g)) < nI 3 := of_decide_eq_false h3
          rw [nI_ltI (by omega) (by omega)] at h3
          rw [if_pos (by omega)]
          exact And.intro rfl rfl
      | 1, _ =>
        refine And.intro (fun h => absurd h (by decide)) (fun _ => ?_)
        refine And.intro (fun h3 => ?_) (fun h3 => ?_)
        · have h3 : nI (kr_l R g (nI 1) (kr_bd R g)) < nI 6 := of_decide_eq_true h3
          rw [nI_ltI (by omega) (by omega)] at h3
          rw [if_neg (by omega)]
          exact kb_E_to (cr_wish hR (nI 1)) (And.intro rfl rfl)
        · have h3 : ¬ nI (kr_l R g (nI 1) (kr_bd R g)) < nI 6 := of_decide_eq_false h3
          rw [nI_ltI (by omega) (by omega)] at h3
          rw [if_pos (by omega)]
          exact And.intro rfl rfl
  · have h := Classical.not_not.mp (of_decide_eq_false h)
    rw [eg, eg2, hbd] at h
    have h : nI (kr_bd R g) = nI 60 := h
    rw [nI_eq (by omega) (by omega)] at h
    rw [if_pos h]
    exact And.intro rfl rfl
/-- which application and file -/
def kr_fl (app name : Int32) : Prop := (0 ≤ app ∧ app ≤ 1) ∧ 0 ≤ name ∧ name ≤ 5
theorem kr_fl_of {app name : Int32} (h : kr_fl app name) : ∃ a f : Nat, a < 2 ∧ f < 6 ∧ app = nI a ∧ name = nI f := by
  obtain ⟨k, hk, e⟩ := kr_in app (n := 1) (by decide) h.1
  obtain ⟨m, hm, e2⟩ := kr_in name (n := 5) (by decide) h.2
  exact ⟨k, m, by omega, by omega, e, e2⟩
theorem kr_fl_in {a f : Nat} (ha : a < 2) (hf : f < 6) : kr_fl (nI a) (nI f) := ⟨kr_out (n := 1) (by omega) (by omega), kr_out (n := 5) (by omega) (by omega)⟩
theorem cr_file {R : kb_M} {a f : Nat} (ha : a < 2) (hf : f < 6) : kb_E (kb_en kz_Model_noFile [.inr (some 33), .inl (nI a), .inl (nI f)] R) (fun q => q = (some (.inl 0), R)) := by
  have h := cr_noFile R (nI a) (nI f)
  have h9 : (0 ≤ nI a ∧ nI a ≤ 1) ∧ 0 ≤ nI f ∧ nI f ≤ 5 := kr_fl_in ha hf
  rw [if_pos h9] at h
  exact h
theorem cr_file_no {R : kb_M} {app name : Int32} (h0 : ¬ kr_fl app name) : kb_E (kb_en kz_Model_noFile [.inr (some 33), .inl app, .inl name] R) (fun q => q = (some (.inl 1), R)) := by
  have h := cr_noFile R app name
  have h9 : ¬ ((0 ≤ app ∧ app ≤ 1) ∧ 0 ≤ name ∧ name ≤ 5) := h0
  rw [if_neg h9] at h
  exact h
set_option maxRecDepth 100000 in
theorem cr_length {R : kb_M} {a f : Nat} (ha : a < 2) (hf : f < 6) : kb_E (kb_en kz_Model_length [.inr (some 33), .inl (nI a), .inl (nI f)] R) (fun q => q = (some (.inl (R 35 (6 * a + f))), R)) := by
  refine kb_go 40 [] ?_
  refine kb_E_to (cr_file ha hf) ?_
  refine And.intro (fun _ => ?_) (fun h => absurd h (by decide))
  refine And.intro (by rw [kr_6 (by omega)]; exact kb_in_nI (by omega) (by omega)) (And.intro rfl ?_)
  rw [kr_6 (by omega), nI_clamp (by omega)]
set_option maxRecDepth 100000 in
theorem cr_length_no {R : kb_M} {app name : Int32} (h0 : ¬ kr_fl app name) : kb_E (kb_en kz_Model_length [.inr (some 33), .inl app, .inl name] R) (fun q => q = (some (.inl (-1)), R)) := by
  refine kb_go 40 [] ?_
  refine kb_E_to (cr_file_no h0) ?_
  exact And.intro (fun h => absurd h (by decide)) (fun _ => And.intro rfl rfl)
theorem cr_word {R : kb_M} (hR : kr_ok R) {a f i : Nat} (ha : a < 2) (hf : f < 6) (hi : i < kr_sz R (6 * a + f)) : kb_E (kb_en kz_Model_noWord [.inr (some 33), .inl (nI a), .inl (nI f), .inl (nI i)] R) (fun q => q = (some (.inl 0), R)) := by
  have h := cr_noWord (R := R) ha hf (nI i)
  obtain ⟨h1, h2⟩ := hR.2.1 (6 * a + f) (by omega)
  rw [if_pos (by rw [h1]; exact (kr_tk (by omega)).mpr ⟨i, hi, rfl⟩)] at h
  exact h
theorem cr_word_no {R : kb_M} (hR : kr_ok R) {a f : Nat} (ha : a < 2) (hf : f < 6) {v : Int32} (hv : ¬ ∃ i, i < kr_sz R (6 * a + f) ∧ v = nI i) : kb_E (kb_en kz_Model_noWord [.inr (some 33), .inl (nI a), .inl (nI f), .inl v] R) (fun q => q = (some (.inl 1), R)) := by
  have h := cr_noWord (R := R) ha hf v
  obtain ⟨h1, h2⟩ := hR.2.1 (6 * a + f) (by omega)
  rw [if_neg (by rw [h1]; exact fun q => hv ((kr_tk (by omega)).mp q))] at h
  exact h
set_option maxRecDepth 100000 in
theorem cr_write {R : kb_M} (hR : kr_ok R) {a f i : Nat} (ha : a < 2) (hf : f < 6) (hi : i < kr_sz R (6 * a + f)) (w : Int32) : kb_E (kb_en kz_Model_write [.inr (some 33), .inl (nI a), .inl (nI f), .inl (nI i), .inl w] R) (fun q => q = (some (.inl 1), kr_ch R a f i w)) := by
  have h2 := (hR.2.1 (6 * a + f) (by omega)).2
  refine kb_go 40 [] ?_
  refine kb_E_to (cr_word hR ha hf hi) ?_
  refine And.intro (fun _ => ?_) (fun h => absurd h (by decide))
  exact kb_E_to (cr_change hR ha hf (by omega) w) (And.intro rfl rfl)
set_option maxRecDepth 100000 in
theorem cr_write_no {R : kb_M} {u v i : Int32} (h0 : kb_E (kb_en kz_Model_noWord [.inr (some 33), .inl u, .inl v, .inl i] R) (fun q => q = (some (.inl 1), R))) (w : Int32) : kb_E (kb_en kz_Model_write [.inr (some 33), .inl u, .inl v, .inl i, .inl w] R) (fun q => q = (some (.inl 0), R)) := by
  refine kb_go 40 [] ?_
  refine kb_E_to h0 ?_
  exact And.intro (fun h => absurd h (by decide)) (fun _ => And.intro rfl rfl)
set_option maxRecDepth 100000 in
theorem cr_read {R : kb_M} (hR : kr_ok R) {a f i : Nat} (ha : a < 2) (hf : f < 6) (hi : i < kr_sz R (6 * a + f)) : kb_E (kb_en kz_Model_read [.inr (some 33), .inl (nI a), .inl (nI f), .inl (nI i)] R) (fun q => q = (some (.inl ((kr_op R a (6 * f + i / 4)) 34 (144 * a + 24 * f + i))), kr_op R a (6 * f + i / 4))) := by
  have h2 := (hR.2.1 (6 * a + f) (by omega)).2
  refine kb_go 40 [] ?_
  refine kb_E_to (cr_word hR ha hf hi) ?_
  refine And.intro (fun _ => ?_) (fun h => absurd h (by decide))
  refine kb_E_to (cr_open hR ha hf (by omega)) ?_
  refine And.intro (by rw [kr_wx]; exact kb_in_nI (by omega) (by omega)) (And.intro rfl ?_)
  rw [kr_wx, nI_clamp (by omega)]
set_option maxRecDepth 100000 in
theorem cr_read_no {R : kb_M} {u v i : Int32} (h0 : kb_E (kb_en kz_Model_noWord [.inr (some 33), .inl u, .inl v, .inl i] R) (fun q => q = (some (.inl 1), R))) : kb_E (kb_en kz_Model_read [.inr (some 33), .inl u, .inl v, .inl i] R) (fun q => q = (some (.inl 0), R)) := by
  refine kb_go 40 [] ?_
  refine kb_E_to h0 ?_
  exact And.intro (fun h => absurd h (by decide)) (fun _ => And.intro rfl rfl)
theorem kr_b_ge {R : kb_M} {a f : Nat} : ∀ n, f < n → (kr_sz R (6 * a + f) + 3) / 4 ≤ kr_b R a n := by
  intro n
  induction n with
  | zero => intro h; omega
  | succ n ih =>
    intro h
    unfold kr_b
    by_cases hf : f = n
    · rw [hf]; omega
    · have := ih (by omega); omega
/-- append -/
def kr_a1 (R : kb_M) (a f : Nat) : kb_M := if kr_sz R (6 * a + f) % 4 = 0 then kr_cm R 1 else R
def kr_a2 (R : kb_M) (a f : Nat) : kb_M := kb_up (kr_a1 R a f) 35 (6 * a + f) (nI (kr_sz R (6 * a + f) + 1))
def kr_app (R : kb_M) (a f : Nat) (w : Int32) : kb_R := if kr_sz R (6 * a + f) % 4 = 0 ∧ 6 ≤ kr_b R a 6 then (some (.inl 0), R) else (some (.inl 1), kr_ch (kr_a2 R a f) a f (kr_sz R (6 * a + f)) w)
theorem kr_a1_ok {R : kb_M} (hR : kr_ok R) (a f : Nat) : kr_ok (kr_a1 R a f) ∧ (kr_a1 R a f) 35 = R 35 := by
  unfold kr_a1
  split
  next => exact ⟨kr_cm_ok hR 1, kr_cm_ne R 1 (by decide) (by decide) (by decide) (by decide)⟩
  next => exact ⟨hR, rfl⟩
theorem kr_a2_ok {R : kb_M} (hR : kr_ok R) {a f : Nat} (h : kr_sz R (6 * a + f) < 24) : kr_ok (kr_a2 R a f) := by
  obtain ⟨⟨h1, h2, h3, h4, h5⟩, h6⟩ := kr_a1_ok hR a f
  have en : ∀ k, k ≠ 35 → (kr_a2 R a f) k = (kr_a1 R a f) k := fun k hk => kb_up_ne _ _ _ hk
  have e35 : (kr_a2 R a f) 35 = upd ((kr_a1 R a f) 35) (6 * a + f) (nI (kr_sz R (6 * a + f) + 1)) := kb_up_at _ _ _ _
  unfold kr_ok kr_bd kr_sz kr_fr
  rw [en 39 (by decide), en 38 (by decide), en 41 (by decide), en 37 (by decide), e35]
  refine ⟨h1, fun j hj => ?_, h3, h4, h5⟩
  unfold upd
  by_cases hk : j = 6 * a + f
  · rw [if_pos hk, nI_clamp (by omega)]
    exact ⟨rfl, by omega⟩
  · rw [if_neg hk]
    exact h2 j hj
set_option maxRecDepth 100000 in
theorem cr_append {R : kb_M} (hR : kr_ok R) {a f : Nat} (ha : a < 2) (hf : f < 6) (w : Int32) : kb_E (kb_en kz_Model_append [.inr (some 33), .inl (nI a), .inl (nI f), .inl w] R) (fun q => q = kr_app R a f w) := by
  obtain ⟨h1, h2⟩ := hR.2.1 (6 * a + f) (by omega)
  have hx := kr_6 (a := a) (by omega) f
  have hcl : (nI (6 * a + f)).toNatClampNeg = 6 * a + f := nI_clamp (by omega)
  have hin : kb_in (nI (6 * a + f)) 12 = true := kb_in_nI (by omega) (by omega)
  have hge := kr_b_ge (R := R) (a := a) (f := f) 6 hf
  have hbl : kr_b R a 6 < 1000 := by
    have : ∀ n, n ≤ 6 → kr_b R a n ≤ 6 * n := by
      intro n
      induction n with
      | zero => intro _; exact Nat.le_refl _
      | succ n ih =>
        intro hn
        have := ih (by omega)
        have hs := (hR.2.1 (6 * a + n) (by omega)).2
        unfold kr_b
        omega
    have := this 6 (by omega)
    omega
  have er : R 35 (nI (6 * a + f)).toNatClampNeg - R 35 (nI (6 * a + f)).toNatClampNeg / Int32.ofInt 4 * Int32.ofInt 4 = nI (kr_sz R (6 * a + f) % 4) := by
    rw [hcl, h1, show Int32.ofInt 4 = nI 4 from rfl, pk_rem (by omega) (by omega) (by omega)]
  unfold kr_app
  refine kb_go 80 [] ?_
  refine kb_E_to (cr_file ha hf) ?_
  refine And.intro (fun _ => ?_) (fun h => absurd h (by decide))
  refine And.intro (by rw [hx]; exact hin) ?_
  refine And.intro rfl ?_
  have hch : ∀ S, S = kr_a2 R a f → kr_sz R (6 * a + f) < 24 → kb_E (kb_en kz_Model_change [.inr (some 33), .inl (nI a), .inl (nI f), .inl (nI (kr_sz R (6 * a + f))), .inl w] S) (fun q => q = (none, kr_ch (kr_a2 R a f) a f (kr_sz R (6 * a + f)) w)) := by
    intro S hS hlt
    rw [hS]
    exact cr_change (kr_a2_ok hR hlt) ha hf hlt w
  refine And.intro (fun h => ?_) (fun h => ?_)
  · have h := of_decide_eq_true h
    rw [hx, er] at h
    have h : ¬ nI (kr_sz R (6 * a + f) % 4) = nI 0 := h
    rw [nI_eq (by omega) (by omega)] at h
    rw [if_neg (fun q => h q.1)]
    refine And.intro (by rw [hx]; exact hin) ?_
    have h4 := hch _ (show kb_up R 35 (6 * a + f) (nI (kr_sz R (6 * a + f) + 1)) = kr_a2 R a f from by unfold kr_a2 kr_a1; rw [if_neg h]) (by omega)
    rw [nI_succ, ← h1, ← hcl, ← hx] at h4
    refine kb_E_to h4 (And.intro rfl ?_)
    rw [hx, hcl]
    rfl
  · have h := Classical.not_not.mp (of_decide_eq_false h)
    rw [hx, er] at h
    have h : nI (kr_sz R (6 * a + f) % 4) = nI 0 := h
    rw [nI_eq (by omega) (by omega)] at h
    refine kb_E_to (cr_blocksOf hR ha) ?_
    refine And.intro (fun h3 => ?_) (fun h3 => ?_)
    · have h3 : nI (kr_b R a 6) < nI 6 := of_decide_eq_true h3
      rw [nI_ltI (by omega) (by omega)] at h3
      rw [if_neg (fun q => by omega)]
      refine kb_E_to (cr_claim hR (b := 1) (by decide)) ?_
      refine And.intro (by rw [hx]; exact hin) ?_
      have h4 := hch _ (show kb_up (kr_cm R 1) 35 (6 * a + f) (nI (kr_sz R (6 * a + f) + 1)) = kr_a2 R a f from by unfold kr_a2 kr_a1; rw [if_pos h]) (by omega)
      rw [nI_succ, ← h1, ← hcl, ← hx] at h4
      refine kb_E_to h4 (And.intro rfl ?_)
      rw [hx, hcl]
      rfl
    · have h3 : ¬ nI (kr_b R a 6) < nI 6 := of_decide_eq_false h3
      rw [nI_ltI (by omega) (by omega)] at h3
      rw [if_pos ⟨h, by omega⟩]
      exact And.intro rfl rfl
set_option maxRecDepth 100000 in
theorem cr_append_no {R : kb_M} {app name : Int32} (h0 : ¬ kr_fl app name) (w : Int32) : kb_E (kb_en kz_Model_append [.inr (some 33), .inl app, .inl name, .inl w] R) (fun q => q = (some (.inl 0), R)) := by
  refine kb_go 40 [] ?_
  refine kb_E_to (cr_file_no h0) ?_
  exact And.intro (fun h => absurd h (by decide)) (fun _ => And.intro rfl rfl)
/-- erase: the first n parts of file f leave their frames -/
def kr_er (R : kb_M) (a f : Nat) : Nat → kb_M
  | 0 => R
  | n + 1 => match kr_fi (kr_er R a f n) a (nI (6 * f + n)) (kr_fr (kr_er R a f n) a) with
    | none => kr_er R a f n
    | some j => kr_rm (kr_er R a f n) a j
theorem kr_er_ok {R : kb_M} (hR : kr_ok R) {a : Nat} (ha : a < 2) (f : Nat) : ∀ n, kr_ok (kr_er R a f n) ∧ (kr_er R a f n) 35 = R 35 := by
  intro n
  induction n with
  | zero => exact ⟨hR, rfl⟩
  | succ n ih =>
    unfold kr_er
    cases hl : kr_fi (kr_er R a f n) a (nI (6 * f + n)) (kr_fr (kr_er R a f n) a) with
    | none => exact ih
    | some j =>
      refine ⟨(kr_rm_ok ih.1 ha (kr_fi_lt hl).1).1, ?_⟩
      show (kr_rm (kr_er R a f n) a j) 35 = R 35
      unfold kr_rm
      rw [kb_up_ne _ _ _ (by decide), kr_ri1_ne _ _ _ _ (by decide) (by decide)]
      exact ih.2
def kr_era (R : kb_M) (a f : Nat) : kb_M := kb_up (kr_er R a f ((kr_sz R (6 * a + f) + 3) / 4)) 35 (6 * a + f) 0
set_option maxRecDepth 100000 in
theorem cr_erase {R : kb_M} (hR : kr_ok R) {a f : Nat} (ha : a < 2) (hf : f < 6) : kb_E (kb_en kz_Model_erase [.inr (some 33), .inl (nI a), .inl (nI f)] R) (fun q => q = (some (.inl (nI ((kr_sz R (6 * a + f) + 3) / 4))), kr_era R a f)) := by
  obtain ⟨h1, h2⟩ := hR.2.1 (6 * a + f) (by omega)
  have hx := kr_6 (a := a) (by omega) f
  have hcl : (nI (6 * a + f)).toNatClampNeg = 6 * a + f := nI_clamp (by omega)
  have hin : kb_in (nI (6 * a + f)) 12 = true := kb_in_nI (by omega) (by omega)
  have loop : ∀ (k i : Nat) (v : Int32) (x : Option kb_v), i + k = (kr_sz R (6 * a + f) + 3) / 4 → v = nI i → kb_E (kz_Model_erase, 30, [some (.inr (some 33)), some (.inl (nI a)), some (.inl (nI f)), some (.inl (nI ((kr_sz R (6 * a + f) + 3) / 4))), some (.inl v), x], [], kr_er R a f i) (fun q => q = (some (.inl (nI ((kr_sz R (6 * a + f) + 3) / 4))), kr_era R a f)) := by
    intro k
    induction k with
    | zero =>
      intro i v x hi hv
      subst hv
      refine kb_go 60 [30] ?_
      refine And.intro (fun h => ?_) (fun h => ?_)
      · refine And.intro (by rw [hx]; exact hin) (And.intro rfl ?_)
        rw [hx, hcl, show i = (kr_sz R (6 * a + f) + 3) / 4 by omega]
        rfl
      · have h := of_decide_eq_false h
        rw [nI_leI (by omega) (by omega)] at h
        omega
    | succ k ih =>
      intro i v x hi hv
      subst hv
      have hok := (kr_er_ok hR ha f i).1
      have hle := (hok.2.2.1 a ha).2
      have hfd := cr_find hok ha (nI (6 * f + i))
      rw [← kr_6 hf] at hfd
      have hs : kr_er R a f (i + 1) = match kr_fi (kr_er R a f i) a (nI (6 * f + i)) (kr_fr (kr_er R a f i) a) with
        | none => kr_er R a f i
        | some j => kr_rm (kr_er R a f i) a j := rfl
      refine kb_go 60 [30] ?_
      refine And.intro (fun h => ?_) (fun _ => ?_)
      · have h := of_decide_eq_true h
        rw [nI_leI (by omega) (by omega)] at h
        omega
      · refine kb_E_to hfd ?_
        rw [kr_6 hf]
        cases hl : kr_fi (kr_er R a f i) a (nI (6 * f + i)) (kr_fr (kr_er R a f i) a) with
        | none =>
          rw [hl] at hs
          refine And.intro (fun _ => ?_) (fun h => absurd (show decide ((-1 : Int32) < 0) = false from h) (by decide))
          have h3 := fun x => ih (i + 1) _ x (by omega) (nI_succ i).symm
          rw [hs] at h3
          exact h3 _
        | some j =>
          rw [hl] at hs
          have hj := (kr_fi_lt hl).1
          refine And.intro (fun h => absurd (of_decide_eq_true h) (nI_pos (by omega))) (fun _ => ?_)
          refine kb_E_to (cr_remove hok ha hj) ?_
          have h3 := fun x => ih (i + 1) _ x (by omega) (nI_succ i).symm
          rw [hs] at h3
          exact h3 _
  refine kb_go 60 [30] ?_
  refine kb_E_to (cr_file ha hf) ?_
  refine And.intro (fun _ => ?_) (fun h => absurd h (by decide))
  refine And.intro (by rw [hx]; exact hin) (And.intro rfl ?_)
  have e3 : (R 35 ((Int8.ofInt 6).toInt32 * nI a + nI f).toNatClampNeg + Int32.ofInt 3) / Int32.ofInt 4 = nI ((kr_sz R (6 * a + f) + 3) / 4) := by
    rw [hx, hcl, h1, show Int32.ofInt 3 = nI 3 from rfl, show Int32.ofInt 4 = nI 4 from rfl, nI_add, pk_div (by omega) (by omega) (by omega)]
  have h0 := loop ((kr_sz R (6 * a + f) + 3) / 4) 0 0 none (by omega) rfl
  rw [← e3] at h0 ⊢
  exact h0
set_option maxRecDepth 100000 in
theorem cr_erase_no {R : kb_M} {app name : Int32} (h0 : ¬ kr_fl app name) : kb_E (kb_en kz_Model_erase [.inr (some 33), .inl app, .inl name] R) (fun q => q = (some (.inl (-1)), R)) := by
  refine kb_go 40 [] ?_
  refine kb_E_to (cr_file_no h0) ?_
  exact And.intro (fun h => absurd h (by decide)) (fun _ => And.intro rfl rfl)
/-- sync: the first n places of application a are stored -/
def kr_sy (R : kb_M) (a : Nat) : Nat → kb_M
  | 0 => R
  | n + 1 => kr_so (kr_sy R a n) (3 * a + n)
theorem kr_sy_ok {R : kb_M} (hR : kr_ok R) (a : Nat) : ∀ n, kr_ok (kr_sy R a n) ∧ (kr_sy R a n) 38 = R 38 := by
  intro n
  induction n with
  | zero => exact ⟨hR, rfl⟩
  | succ n ih =>
    refine ⟨kr_so_ok ih.1 _, ?_⟩
    show (kr_so (kr_sy R a n) (3 * a + n)) 38 = R 38
    unfold kr_so
    rw [kb_up_ne _ _ _ (by decide), kb_up_ne _ _ _ (by decide)]
    exact ih.2
theorem kr_app_of {v : Int32} (h : 0 ≤ v ∧ v ≤ 1) : ∃ a : Nat, a < 2 ∧ v = nI a := by
  obtain ⟨k, hk, e⟩ := kr_in v (n := 1) (by decide) h
  exact ⟨k, by omega, e⟩
set_option maxRecDepth 100000 in
theorem cr_sync {R : kb_M} (hR : kr_ok R) {a : Nat} (ha : a < 2) : kb_E (kb_en kz_Model_sync [.inr (some 33), .inl (nI a)] R) (fun q => q = (some (.inl ((kr_sy R a (kr_fr R a)) 33 1 - R 33 1)), kr_sy R a (kr_fr R a))) := by
  obtain ⟨hfr, hle⟩ := hR.2.2.1 a ha
  have ea : (nI a).toNatClampNeg = a := nI_clamp (by omega)
  have h1 := cr_within R (nI a) 0 1
  have h9 : (0 : Int32) ≤ nI a ∧ nI a ≤ 1 := kr_out (n := 1) (by omega) (by omega)
  rw [if_pos h9] at h1
  have loop : ∀ (k i : Nat) (v : Int32), i + k = kr_fr R a → v = nI (3 * a + i) → kb_E (kz_Model_sync, 20, [some (.inr (some 33)), some (.inl (nI a)), some (.inl (R 33 1)), some (.inl v)], [], kr_sy R a i) (fun q => q = (some (.inl ((kr_sy R a (kr_fr R a)) 33 1 - R 33 1)), kr_sy R a (kr_fr R a))) := by
    intro k
    induction k with
    | zero =>
      intro i v hi hv
      subst hv
      have e38 := (kr_sy_ok hR a i).2
      refine kb_go 60 [20] ?_
      refine And.intro (kb_in_nI ha (by omega)) ?_
      refine And.intro (fun h => ?_) (fun h => ?_)
      · rw [show kr_fr R a = i by omega]
        exact And.intro rfl rfl
      · have h := of_decide_eq_false h
        rw [ea, e38, hfr, kr_3, nI_add, nI_leI (by omega) (by omega)] at h
        omega
    | succ k ih =>
      intro i v hi hv
      subst hv
      have e38 := (kr_sy_ok hR a i).2
      refine kb_go 60 [20] ?_
      refine And.intro (kb_in_nI ha (by omega)) ?_
      refine And.intro (fun h => ?_) (fun _ => ?_)
      · have h := of_decide_eq_true h
        rw [ea, e38, hfr, kr_3, nI_add, nI_leI (by omega) (by omega)] at h
        omega
      · refine kb_E_to (cr_storeAt (kr_sy R a i) (j := 3 * a + i) (by omega)) ?_
        exact ih (i + 1) _ (by omega) (nI_succ _).symm
  refine kb_go 60 [20] ?_
  refine kb_E_to h1 ?_
  refine And.intro (fun _ => ?_) (fun h => absurd h (by decide))
  exact loop (kr_fr R a) 0 _ (by omega) (kr_3 a)
set_option maxRecDepth 100000 in
theorem cr_sync_no {R : kb_M} {v : Int32} (h0 : ¬ (0 ≤ v ∧ v ≤ 1)) : kb_E (kb_en kz_Model_sync [.inr (some 33), .inl v] R) (fun q => q = (some (.inl (-1)), R)) := by
  have h1 := cr_within R v 0 1
  rw [if_neg h0] at h1
  refine kb_go 60 [] ?_
  refine kb_E_to h1 ?_
  exact And.intro (fun h => absurd h (by decide)) (fun _ => And.intro rfl rfl)
def kr_sq (R : kb_M) (a : Nat) : kb_R := if kr_fr R a = 0 then (some (.inl 0), R) else (some (.inl 1), kr_rm (kr_so R (3 * a)) a 0)
set_option maxRecDepth 100000 in
theorem cr_squeeze {R : kb_M} (hR : kr_ok R) {a : Nat} (ha : a < 2) : kb_E (kb_en kz_Model_squeeze [.inr (some 33), .inl (nI a)] R) (fun q => q = kr_sq R a) := by
  obtain ⟨hfr, hle⟩ := hR.2.2.1 a ha
  have ea : (nI a).toNatClampNeg = a := nI_clamp (by omega)
  have h1 := cr_within R (nI a) 0 1
  have h9 : (0 : Int32) ≤ nI a ∧ nI a ≤ 1 := kr_out (n := 1) (by omega) (by omega)
  rw [if_pos h9] at h1
  unfold kr_sq
  refine kb_go 60 [] ?_
  refine kb_E_to h1 ?_
  refine And.intro (fun h => absurd h (by decide)) (fun _ => ?_)
  refine And.intro (kb_in_nI ha (by omega)) ?_
  refine And.intro (fun h => ?_) (fun h => ?_)
  · have h := of_decide_eq_true h
    rw [ea, hfr] at h
    have h : ¬ nI (kr_fr R a) = nI 0 := h
    rw [nI_eq (by omega) (by omega)] at h
    rw [if_neg h]
    have s1 := cr_storeAt R (j := 3 * a) (by omega)
    rw [← kr_3] at s1
    refine kb_E_to s1 ?_
    have s2 := cr_remove (kr_so_ok hR (3 * a)) (j := 0) ha (by rw [kr_so_fr]; omega)
    rw [Nat.add_zero, ← kr_3] at s2
    refine kb_E_to s2 ?_
    exact And.intro rfl rfl
  · have h := Classical.not_not.mp (of_decide_eq_false h)
    rw [ea, hfr] at h
    have h : nI (kr_fr R a) = nI 0 := h
    rw [nI_eq (by omega) (by omega)] at h
    rw [if_pos h]
    exact And.intro rfl rfl
set_option maxRecDepth 100000 in
theorem cr_squeeze_no {R : kb_M} {v : Int32} (h0 : ¬ (0 ≤ v ∧ v ≤ 1)) : kb_E (kb_en kz_Model_squeeze [.inr (some 33), .inl v] R) (fun q => q = (some (.inl 0), R)) := by
  have h1 := cr_within R v 0 1
  rw [if_neg h0] at h1
  refine kb_go 60 [] ?_
  refine kb_E_to h1 ?_
  exact And.intro (fun _ => And.intro rfl rfl) (fun h => absurd h (by decide))
end
section
/-! the guest: its methods in plain words. A guest is cell c: c + 1 kinds, c + 2 resources, c + 3 states, c + 4 deadlines; field 7: how many tickets -/
def kg_P (c : Nat) : Prop := c = 9 ∨ c = 14
set_option maxRecDepth 100000 in
theorem cg_hasAll {c n : Nat} (hc : kg_P c) {C : kb_M} (hn : C c 7 = nI n) (hle : n ≤ 60) : kb_E (kb_en kz_Guest_hasAllTickets [.inr (some c)] C) (fun q => q = (some (.inl (if n = 60 then 1 else 0)), C)) := by
  rcases hc with rfl | rfl
  all_goals
    refine kb_go 20 [] ?_
    refine And.intro (fun h => ?_) (fun h => ?_)
    · have h : C _ 7 < nI 60 := of_decide_eq_true h
      rw [hn, nI_ltI (by omega) (by omega)] at h
      rw [if_neg (by omega)]
      exact And.intro rfl rfl
    · have h : ¬ C _ 7 < nI 60 := of_decide_eq_false h
      rw [hn, nI_ltI (by omega) (by omega)] at h
      rw [if_pos (by omega)]
      exact And.intro rfl rfl
set_option maxRecDepth 100000 in
theorem cg_stateOf {c n : Nat} (hc : kg_P c) {C : kb_M} (hn : C c 7 = nI n) (hle : n ≤ 60) (v : Int32) : kb_E (kb_en kz_Guest_stateOf [.inr (some c), .inl v] C) (fun q => q = (some (.inl (if 0 ≤ v ∧ v ≤ nI n - 1 then C (c + 3) v.toNatClampNeg else -1)), C)) := by
  by_cases hv : 0 ≤ v ∧ v ≤ nI n - 1
  · rw [if_pos hv]
    obtain ⟨t, ht, rfl⟩ := (kr_tk (by omega)).mp hv
    have hcl : (nI t).toNatClampNeg = t := nI_clamp (by omega)
    rcases hc with rfl | rfl
    all_goals
      refine kb_go 20 [] ?_
      refine And.intro (fun h => absurd (of_decide_eq_true h) (nI_pos (by omega))) (fun _ => ?_)
      refine And.intro (fun h => ?_) (fun _ => ?_)
      · have h : C _ 7 ≤ nI t := of_decide_eq_true h
        rw [hn, nI_leI (by omega) (by omega)] at h
        omega
      · exact And.intro (kb_in_nI (by omega) (by omega)) (And.intro rfl rfl)
  · rw [if_neg hv]
    rcases hc with rfl | rfl
    all_goals
      refine kb_go 20 [] ?_
      refine And.intro (fun _ => And.intro rfl rfl) (fun h => ?_)
      have h : ¬ v < 0 := of_decide_eq_false h
      refine And.intro (fun _ => And.intro rfl rfl) (fun h2 => ?_)
      have h2 : ¬ C _ 7 ≤ v := of_decide_eq_false h2
      rw [hn] at h2
      obtain ⟨j, hj, rfl⟩ := nI_of h
      rw [nI_leI (by omega) hj] at h2
      exact absurd ((kr_tk (by omega)).mpr ⟨j, by omega, rfl⟩) hv
/-- is it 2 or 3? -/
def kg_lv (s : Int32) : Int32 := if s = 2 ∨ s = 3 then 1 else 0
set_option maxRecDepth 100000 in
theorem cg_isLive {c n : Nat} (hc : kg_P c) {C : kb_M} (hn : C c 7 = nI n) (hle : n ≤ 60) (v : Int32) : kb_E (kb_en kz_Guest_isLive [.inr (some c), .inl v] C) (fun q => q = (some (.inl (kg_lv (if 0 ≤ v ∧ v ≤ nI n - 1 then C (c + 3) v.toNatClampNeg else -1))), C)) := by
  have h0 := cg_stateOf hc hn hle v
  generalize (if 0 ≤ v ∧ v ≤ nI n - 1 then C (c + 3) v.toNatClampNeg else -1) = s at h0 ⊢
  unfold kg_lv
  rcases hc with rfl | rfl
  all_goals
    refine kb_go 20 [] ?_
    refine kb_E_to h0 ?_
    refine And.intro (fun h => ?_) (fun h => ?_)
    · have h : s = 2 := of_decide_eq_true h
      rw [if_pos (Or.inl h)]
      exact And.intro rfl rfl
    · have h : ¬ s = 2 := of_decide_eq_false h
      refine And.intro (fun h2 => ?_) (fun h2 => ?_)
      · have h2 : ¬ s = 3 := of_decide_eq_true h2
        rw [if_neg (fun q => q.elim h h2)]
        exact And.intro rfl rfl
      · have h2 : s = 3 := Classical.not_not.mp (of_decide_eq_false h2)
        rw [if_pos (Or.inr h2)]
        exact And.intro rfl rfl
/-- a live ticket -/
theorem cg_isLive_y {c n t : Nat} (hc : kg_P c) {C : kb_M} (hn : C c 7 = nI n) (hle : n ≤ 60) (ht : t < n) (hs : C (c + 3) t = 2 ∨ C (c + 3) t = 3) : kb_E (kb_en kz_Guest_isLive [.inr (some c), .inl (nI t)] C) (fun q => q = (some (.inl 1), C)) := by
  have h := cg_isLive hc hn hle (nI t)
  rw [if_pos ((kr_tk (by omega)).mpr ⟨t, ht, rfl⟩), nI_clamp (by omega)] at h
  unfold kg_lv at h
  rw [if_pos hs] at h
  exact h
theorem cg_isLive_n {c n : Nat} (hc : kg_P c) {C : kb_M} (hn : C c 7 = nI n) (hle : n ≤ 60) {v : Int32} (hv : ∀ t, t < n → v = nI t → ¬ (C (c + 3) t = 2 ∨ C (c + 3) t = 3)) : kb_E (kb_en kz_Guest_isLive [.inr (some c), .inl v] C) (fun q => q = (some (.inl 0), C)) := by
  have h := cg_isLive hc hn hle v
  by_cases hr : 0 ≤ v ∧ v ≤ nI n - 1
  · rw [if_pos hr] at h
    obtain ⟨t, ht, rfl⟩ := (kr_tk (by omega)).mp hr
    rw [nI_clamp (by omega)] at h
    unfold kg_lv at h
    rw [if_neg (hv t ht rfl)] at h
    exact h
  · rw [if_neg hr] at h
    exact h
set_option maxRecDepth 100000 in
theorem cg_isLiveOf_y {c n t : Nat} (hc : kg_P c) {C : kb_M} (hn : C c 7 = nI n) (hle : n ≤ 60) (ht : t < n) (hs : C (c + 3) t = 2 ∨ C (c + 3) t = 3) (b : Int32) : kb_E (kb_en kz_Guest_isLiveOf [.inr (some c), .inl (nI t), .inl b] C) (fun q => q = (some (.inl (if C (c + 1) t = b then 1 else 0)), C)) := by
  have h0 := cg_isLive_y hc hn hle ht hs
  have hcl : (nI t).toNatClampNeg = t := nI_clamp (by omega)
  rcases hc with rfl | rfl
  all_goals
    refine kb_go 20 [] ?_
    refine kb_E_to h0 ?_
    refine And.intro (fun h => absurd h (by decide)) (fun _ => ?_)
    refine And.intro (kb_in_nI (by omega) (by omega)) ?_
    refine And.intro (fun h => ?_) (fun h => ?_)
    · have h : ¬ C _ (nI t).toNatClampNeg = b := of_decide_eq_true h
      rw [hcl] at h
      rw [if_neg h]
      exact And.intro rfl rfl
    · have h : C _ (nI t).toNatClampNeg = b := Classical.not_not.mp (of_decide_eq_false h)
      rw [hcl] at h
      rw [if_pos h]
      exact And.intro rfl rfl
set_option maxRecDepth 100000 in
theorem cg_isLiveOf_n {c n : Nat} (hc : kg_P c) {C : kb_M} (hn : C c 7 = nI n) (hle : n ≤ 60) {v : Int32} (hv : ∀ t, t < n → v = nI t → ¬ (C (c + 3) t = 2 ∨ C (c + 3) t = 3)) (b : Int32) : kb_E (kb_en kz_Guest_isLiveOf [.inr (some c), .inl v, .inl b] C) (fun q => q = (some (.inl 0), C)) := by
  have h0 := cg_isLive_n hc hn hle hv
  rcases hc with rfl | rfl
  all_goals
    refine kb_go 20 [] ?_
    refine kb_E_to h0 ?_
    exact And.intro (fun _ => And.intro rfl rfl) (fun h => absurd h (by decide))
-- the pool of kind b: cell 3 or 6
set_option maxRecDepth 100000 in
theorem cg_poolOf {c t b : Nat} (hc : kg_P c) (C : kb_M) (ht : t < 60) (hb : b < 2) (hk : C (c + 1) t = nI b) : kb_E (kb_en kz_Guest_poolOf [.inr (some c), .inl (nI t)] C) (fun q => q = (some (.inr (some (3 + 3 * b))), C)) := by
  have hcl : (nI t).toNatClampNeg = t := nI_clamp (by omega)
  rcases hc with rfl | rfl
  all_goals
    refine kb_go 20 [] ?_
    refine And.intro (kb_in_nI (by omega) (by omega)) ?_
    match b, hb with
    | 0, _ =>
      refine And.intro (fun _ => And.intro rfl rfl) (fun h => ?_)
      have h : ¬ C _ (nI t).toNatClampNeg = 0 := of_decide_eq_false h
      rw [hcl] at h
      exact absurd hk h
    | 1, _ =>
      refine And.intro (fun h => ?_) (fun _ => And.intro rfl rfl)
      have h : C _ (nI t).toNatClampNeg = 0 := of_decide_eq_true h
      rw [hcl] at h
      exact absurd (hk.symm.trans h) (by decide)
set_option maxRecDepth 100000 in
theorem cg_giveBack_y {c n t b r : Nat} (hc : kg_P c) {C : kb_M} (hn : C c 7 = nI n) (hle : n ≤ 60) (ht : t < n) (hs : C (c + 3) t = 2 ∨ C (c + 3) t = 3) (hb : b < 2) (hk : C (c + 1) t = nI b) (hr : C (c + 2) t = nI r) (hrn : r < 12 + 12 * b) : kb_E (kb_en kz_Guest_giveBack [.inr (some c), .inl (nI t)] C) (fun q => q = (some (.inl 1), kb_up (kb_up C (c + 3) t 0) (4 + 3 * b) r (-1))) := by
  have h0 := cg_isLive_y hc hn hle ht hs
  have hcl : (nI t).toNatClampNeg = t := nI_clamp (by omega)
  have h1 := cg_poolOf (c := c) (t := t) (b := b) hc (kb_up C (c + 3) t 0) (by omega) hb (by rw [kb_up_ne _ _ _ (by omega)]; exact hk)
  have h2 := cp_endBinding (c := 3 + 3 * b) (n := 12 + 12 * b) (by match b, hb with | 0, _ => exact Or.inl ⟨rfl, rfl⟩ | 1, _ => exact Or.inr ⟨rfl, rfl⟩) (kb_up C (c + 3) t 0) hrn
  have e2 : (kb_up C (c + 3) t 0) (c + 2) = C (c + 2) := kb_up_ne _ _ _ (by omega)
  rw [show 3 + 3 * b + 1 = 4 + 3 * b by omega, ← hr, ← e2] at h2
  rcases hc with rfl | rfl
  all_goals
    match b, hb with
    | 0, _ =>
      refine kb_go 40 [] ?_
      refine kb_E_to h0 ?_
      refine And.intro (fun _ => ?_) (fun h => absurd h (by decide))
      refine And.intro (kb_in_nI (by omega) (by omega)) ?_
      rw [hcl]
      refine kb_E_to h1 ?_
      refine And.intro (kb_in_nI (by omega) (by omega)) ?_
      rw [hcl]
      refine kb_E_to h2 ?_
      exact And.intro rfl rfl
    | 1, _ =>
      refine kb_go 40 [] ?_
      refine kb_E_to h0 ?_
      refine And.intro (fun _ => ?_) (fun h => absurd h (by decide))
      refine And.intro (kb_in_nI (by omega) (by omega)) ?_
      rw [hcl]
      refine kb_E_to h1 ?_
      refine And.intro (kb_in_nI (by omega) (by omega)) ?_
      rw [hcl]
      refine kb_E_to h2 ?_
      exact And.intro rfl rfl
set_option maxRecDepth 100000 in
theorem cg_giveBack_n {c n : Nat} (hc : kg_P c) {C : kb_M} (hn : C c 7 = nI n) (hle : n ≤ 60) {v : Int32} (hv : ∀ t, t < n → v = nI t → ¬ (C (c + 3) t = 2 ∨ C (c + 3) t = 3)) : kb_E (kb_en kz_Guest_giveBack [.inr (some c), .inl v] C) (fun q => q = (some (.inl 0), C)) := by
  have h0 := cg_isLive_n hc hn hle hv
  rcases hc with rfl | rfl
  all_goals
    refine kb_go 20 [] ?_
    refine kb_E_to h0 ?_
    exact And.intro (fun h => absurd h (by decide)) (fun _ => And.intro rfl rfl)
set_option maxRecDepth 100000 in
theorem cg_askFor {c n : Nat} (hc : kg_P c) {C : kb_M} (hn : C c 7 = nI n) (hle : n ≤ 60) (v d : Int32) : kb_E (kb_en kz_Guest_askFor [.inr (some c), .inl v, .inl d] C) (fun q => (∃ t, t < n ∧ v = nI t ∧ C (c + 3) t = 2 ∧ q = (some (.inl 1), kb_up (kb_up C (c + 3) t 3) (c + 4) t d)) ∨ ((∀ t, t < n → v = nI t → ¬ C (c + 3) t = 2) ∧ q = (some (.inl 0), C))) := by
  have h0 := cg_stateOf hc hn hle v
  by_cases hr : 0 ≤ v ∧ v ≤ nI n - 1
  · rw [if_pos hr] at h0
    obtain ⟨t, ht, rfl⟩ := (kr_tk (by omega)).mp hr
    have hcl : (nI t).toNatClampNeg = t := nI_clamp (by omega)
    rw [hcl] at h0
    rcases hc with rfl | rfl
    all_goals
      refine kb_go 40 [] ?_
      refine kb_E_to h0 ?_
      refine And.intro (fun h => ?_) (fun h => ?_)
      · have h := of_decide_eq_true h
        refine And.intro (kb_in_nI (by omega) (by omega)) (And.intro (kb_in_nI (by omega) (by omega)) (And.intro rfl (Or.inl ⟨t, ht, rfl, h, ?_⟩)))
        rw [hcl]
        rfl
      · have h := of_decide_eq_false h
        refine And.intro rfl (Or.inr ⟨fun s hs e => ?_, rfl⟩)
        have e2 : t = s := (nI_eq (by omega) (by omega)).mp e
        rw [← e2]
        exact h
  · rw [if_neg hr] at h0
    rcases hc with rfl | rfl
    all_goals
      refine kb_go 40 [] ?_
      refine kb_E_to h0 ?_
      refine And.intro (fun h => absurd h (by decide)) (fun _ => ?_)
      exact And.intro rfl (Or.inr ⟨fun s hs e => absurd ((kr_tk (by omega)).mpr ⟨s, hs, e⟩) hr, rfl⟩)
theorem kp_b {b : Nat} (hb : b < 2) : kp_P (3 + 3 * b) (12 + 12 * b) := by
  match b, hb with
  | 0, _ => exact Or.inl ⟨rfl, rfl⟩
  | 1, _ => exact Or.inr ⟨rfl, rfl⟩
set_option maxRecDepth 100000 in
theorem cg_addTicket {c n : Nat} (hc : kg_P c) {C : kb_M} (hn : C c 7 = nI n) (hlt : n < 60) {b : Int32} (hb : b = 0 ∨ b = 1) (r : Int32) : kb_E (kb_en kz_Guest_addTicket [.inr (some c), .inl b, .inl r] C) (fun q => q = (some (.inl (nI n)), kb_up (kb_up (kb_up (kb_up C (c + 1) n b) (c + 2) n r) (c + 3) n 2) c 7 (nI (n + 1)))) := by
  have h0 := cg_hasAll hc hn (by omega)
  rw [if_neg (by omega)] at h0
  have hcl : (nI n).toNatClampNeg = n := nI_clamp (by omega)
  have hin : kb_in (nI n) 60 = true := kb_in_nI hlt (by omega)
  rw [nI_succ]
  rcases hc with rfl | rfl
  all_goals
    refine kb_go 40 [] ?_
    refine kb_E_to h0 ?_
    refine And.intro (fun _ => ?_) (fun h => absurd h (by decide))
    refine And.intro (by rw [hn, hin, kr_01 hb]; rfl) ?_
    refine And.intro (by rw [hn]; exact hin) ?_
    refine And.intro (by rw [hn]; exact hin) (And.intro rfl ?_)
    rw [hn, hcl, kb_up_ne _ _ _ (by decide), kb_up_ne _ _ _ (by decide), kb_up_ne _ _ _ (by decide), hn]
    rfl
set_option maxRecDepth 100000 in
theorem cg_putWord_y {c n t r : Nat} (hc : kg_P c) {C : kb_M} (hn : C c 7 = nI n) (hle : n ≤ 60) (ht : t < n) (hs : C (c + 3) t = 2 ∨ C (c + 3) t = 3) (hk : C (c + 1) t = 0) (hr : C (c + 2) t = nI r) (hrn : r < 12) (i w : Int32) : kb_E (kb_en kz_Guest_putWord [.inr (some c), .inl (nI t), .inl i, .inl w] C) (fun q => q = if 0 ≤ i ∧ i < 4 then (some (.inl 1), kb_up C 5 (4 * r + i.toNatClampNeg) w) else (some (.inl 0), C)) := by
  have h0 := cg_isLiveOf_y hc hn hle ht hs 0
  rw [if_pos hk] at h0
  have hcl : (nI t).toNatClampNeg = t := nI_clamp (by omega)
  have h1 := cp_setWord (c := 3) (n := 12) (Or.inl ⟨rfl, rfl⟩) C hrn i w
  rw [← hr, ← hcl] at h1
  by_cases hi : 0 ≤ i ∧ i < 4
  · rw [if_pos hi] at h1 ⊢
    rcases hc with rfl | rfl
    all_goals
      refine kb_go 40 [] ?_
      refine kb_E_to h0 ?_
      refine And.intro (fun h => absurd h (by decide)) (fun _ => ?_)
      refine And.intro (kb_in_nI (by omega) (by omega)) ?_
      refine kb_E_to h1 ?_
      exact And.intro (fun h => absurd h (by decide)) (fun _ => And.intro rfl rfl)
  · rw [if_neg hi] at h1 ⊢
    rcases hc with rfl | rfl
    all_goals
      refine kb_go 40 [] ?_
      refine kb_E_to h0 ?_
      refine And.intro (fun h => absurd h (by decide)) (fun _ => ?_)
      refine And.intro (kb_in_nI (by omega) (by omega)) ?_
      refine kb_E_to h1 ?_
      exact And.intro (fun _ => And.intro rfl rfl) (fun h => absurd h (by decide))
set_option maxRecDepth 100000 in
theorem cg_putWord_n {c : Nat} (hc : kg_P c) {C : kb_M} {v : Int32} (h0 : kb_E (kb_en kz_Guest_isLiveOf [.inr (some c), .inl v, .inl 0] C) (fun q => q = (some (.inl 0), C))) (i w : Int32) : kb_E (kb_en kz_Guest_putWord [.inr (some c), .inl v, .inl i, .inl w] C) (fun q => q = (some (.inl 0), C)) := by
  rcases hc with rfl | rfl
  all_goals
    refine kb_go 40 [] ?_
    refine kb_E_to h0 ?_
    exact And.intro (fun _ => And.intro rfl rfl) (fun h => absurd h (by decide))
set_option maxRecDepth 100000 in
theorem cg_getWord_y {c n t r : Nat} (hc : kg_P c) {C : kb_M} (hn : C c 7 = nI n) (hle : n ≤ 60) (ht : t < n) (hs : C (c + 3) t = 2 ∨ C (c + 3) t = 3) (hk : C (c + 1) t = 0) (hr : C (c + 2) t = nI r) (hrn : r < 12) (i : Int32) : kb_E (kb_en kz_Guest_getWord [.inr (some c), .inl (nI t), .inl i] C) (fun q => q = (some (.inl (if 0 ≤ i ∧ i < 4 then C 5 (4 * r + i.toNatClampNeg) else 0)), C)) := by
  have h0 := cg_isLiveOf_y hc hn hle ht hs 0
  rw [if_pos hk] at h0
  have hcl : (nI t).toNatClampNeg = t := nI_clamp (by omega)
  have h1 := cp_wordAt (c := 3) (n := 12) (Or.inl ⟨rfl, rfl⟩) C hrn i
  rw [← hr, ← hcl] at h1
  rcases hc with rfl | rfl
  all_goals
    refine kb_go 40 [] ?_
    refine kb_E_to h0 ?_
    refine And.intro (fun h => absurd h (by decide)) (fun _ => ?_)
    refine And.intro (kb_in_nI (by omega) (by omega)) ?_
    refine kb_E_to h1 ?_
    exact And.intro rfl rfl
set_option maxRecDepth 100000 in
theorem cg_getWord_n {c : Nat} (hc : kg_P c) {C : kb_M} {v : Int32} (h0 : kb_E (kb_en kz_Guest_isLiveOf [.inr (some c), .inl v, .inl 0] C) (fun q => q = (some (.inl 0), C))) (i : Int32) : kb_E (kb_en kz_Guest_getWord [.inr (some c), .inl v, .inl i] C) (fun q => q = (some (.inl 0), C)) := by
  rcases hc with rfl | rfl
  all_goals
    refine kb_go 40 [] ?_
    refine kb_E_to h0 ?_
    exact And.intro (fun _ => And.intro rfl rfl) (fun h => absurd h (by decide))
-- copy: what isLiveOf says of the two tickets decides
set_option maxRecDepth 100000 in
theorem cg_copy_fb {c f t rf rt : Nat} (hc : kg_P c) {C : kb_M} (hf : f < 60) (ht : t < 60) (h0 : kb_E (kb_en kz_Guest_isLiveOf [.inr (some c), .inl (nI f), .inl 0] C) (fun q => q = (some (.inl 1), C))) (h1 : kb_E (kb_en kz_Guest_isLiveOf [.inr (some c), .inl (nI t), .inl 1] C) (fun q => q = (some (.inl 1), C))) (hrf : C (c + 2) f = nI rf) (hrt : C (c + 2) t = nI rt) (hlf : rf < 12) (hlt : rt < 24) : kb_E (kb_en kz_Guest_copyWords [.inr (some c), .inl (nI f), .inl (nI t)] C) (fun q => q = (some (.inl 1), kp_cp C 5 8 rf rt)) := by
  have hcf : (nI f).toNatClampNeg = f := nI_clamp (by omega)
  have hct : (nI t).toNatClampNeg = t := nI_clamp (by omega)
  have h2 := cp_takeWordsFrom (c := 6) (n := 24) (c1 := 3) (n1 := 12) (Or.inr ⟨rfl, rfl⟩) (Or.inl ⟨rfl, rfl⟩) C hlf hlt
  rw [← hrf, ← hrt] at h2
  rw [show C (c + 2) f = C (c + 2) (nI f).toNatClampNeg from by rw [hcf], show C (c + 2) t = C (c + 2) (nI t).toNatClampNeg from by rw [hct]] at h2
  rcases hc with rfl | rfl
  all_goals
    refine kb_go 60 [] ?_
    refine kb_E_to h0 ?_
    refine And.intro (fun h => absurd h (by decide)) (fun _ => ?_)
    refine kb_E_to h1 ?_
    refine And.intro (fun h => absurd h (by decide)) (fun _ => ?_)
    refine And.intro (kb_in_nI (by omega) (by omega)) ?_
    refine And.intro (kb_in_nI (by omega) (by omega)) ?_
    refine kb_E_to h2 ?_
    exact And.intro rfl rfl
set_option maxRecDepth 100000 in
theorem cg_copy_bf {c f t rf rt : Nat} (hc : kg_P c) {C : kb_M} (hf : f < 60) (ht : t < 60) (hz : kb_E (kb_en kz_Guest_isLiveOf [.inr (some c), .inl (nI f), .inl 0] C) (fun q => q = (some (.inl 0), C))) (h0 : kb_E (kb_en kz_Guest_isLiveOf [.inr (some c), .inl (nI f), .inl 1] C) (fun q => q = (some (.inl 1), C))) (h1 : kb_E (kb_en kz_Guest_isLiveOf [.inr (some c), .inl (nI t), .inl 0] C) (fun q => q = (some (.inl 1), C))) (hrf : C (c + 2) f = nI rf) (hrt : C (c + 2) t = nI rt) (hlf : rf < 24) (hlt : rt < 12) : kb_E (kb_en kz_Guest_copyWords [.inr (some c), .inl (nI f), .inl (nI t)] C) (fun q => q = (some (.inl 1), kp_cp C 8 5 rf rt)) := by
  have hcf : (nI f).toNatClampNeg = f := nI_clamp (by omega)
  have hct : (nI t).toNatClampNeg = t := nI_clamp (by omega)
  have h2 := cp_takeWordsFrom (c := 3) (n := 12) (c1 := 6) (n1 := 24) (Or.inl ⟨rfl, rfl⟩) (Or.inr ⟨rfl, rfl⟩) C hlf hlt
  rw [← hrf, ← hrt] at h2
  rw [show C (c + 2) f = C (c + 2) (nI f).toNatClampNeg from by rw [hcf], show C (c + 2) t = C (c + 2) (nI t).toNatClampNeg from by rw [hct]] at h2
  rcases hc with rfl | rfl
  all_goals
    refine kb_go 60 [] ?_
    refine kb_E_to hz ?_
    refine And.intro (fun _ => ?_) (fun h => absurd h (by decide))
    refine kb_E_to h0 ?_
    refine And.intro (fun h => absurd h (by decide)) (fun _ => ?_)
    refine kb_E_to h1 ?_
    refine And.intro (fun h => absurd h (by decide)) (fun _ => ?_)
    refine And.intro (kb_in_nI (by omega) (by omega)) ?_
    refine And.intro (kb_in_nI (by omega) (by omega)) ?_
    refine kb_E_to h2 ?_
    exact And.intro rfl rfl
set_option maxRecDepth 100000 in
/-- neither way -/
theorem cg_copy_n {c : Nat} (hc : kg_P c) {C : kb_M} {f t : Int32} {a0 a1 b0 b1 : Bool} (hf0 : kb_E (kb_en kz_Guest_isLiveOf [.inr (some c), .inl f, .inl 0] C) (fun q => q = (some (.inl (if a0 then 1 else 0)), C))) (ht1 : kb_E (kb_en kz_Guest_isLiveOf [.inr (some c), .inl t, .inl 1] C) (fun q => q = (some (.inl (if b1 then 1 else 0)), C))) (hf1 : kb_E (kb_en kz_Guest_isLiveOf [.inr (some c), .inl f, .inl 1] C) (fun q => q = (some (.inl (if a1 then 1 else 0)), C))) (ht0 : kb_E (kb_en kz_Guest_isLiveOf [.inr (some c), .inl t, .inl 0] C) (fun q => q = (some (.inl (if b0 then 1 else 0)), C))) (h : ¬ (a0 = true ∧ b1 = true) ∧ ¬ (a1 = true ∧ b0 = true)) : kb_E (kb_en kz_Guest_copyWords [.inr (some c), .inl f, .inl t] C) (fun q => q = (some (.inl 0), C)) := by
  have second : ∀ cc, cc = c → kb_E (kz_Guest_copyWords, 43, [some (.inr (some cc)), some (.inl f), some (.inl t)], [], C) (fun q => q = (some (.inl 0), C)) := by
    intro cc hcc
    subst hcc
    cases a1 with
    | false =>
      rcases hc with rfl | rfl
      all_goals
        refine kb_go 60 [] ?_
        refine kb_E_to hf1 ?_
        exact And.intro (fun _ => And.intro rfl rfl) (fun h => absurd h (by decide))
    | true =>
      cases b0 with
      | true => exact absurd ⟨rfl, rfl⟩ h.2
      | false =>
        rcases hc with rfl | rfl
        all_goals
          refine kb_go 60 [] ?_
          refine kb_E_to hf1 ?_
          refine And.intro (fun h => absurd h (by decide)) (fun _ => ?_)
          refine kb_E_to ht0 ?_
          exact And.intro (fun _ => And.intro rfl rfl) (fun h => absurd h (by decide))
  cases a0 with
  | false =>
    rcases hc with rfl | rfl
    all_goals
      refine kb_go 60 [43] ?_
      refine kb_E_to hf0 ?_
      exact And.intro (fun _ => second _ rfl) (fun h => absurd h (by decide))
  | true =>
    cases b1 with
    | true => exact absurd ⟨rfl, rfl⟩ h.1
    | false =>
      rcases hc with rfl | rfl
      all_goals
        refine kb_go 60 [43] ?_
        refine kb_E_to hf0 ?_
        refine And.intro (fun h => absurd h (by decide)) (fun _ => ?_)
        refine kb_E_to ht1 ?_
        exact And.intro (fun _ => second _ rfl) (fun h => absurd h (by decide))
/-- the last of the first n tickets that is of kind b and not asked for -/
def kg_la (C : kb_M) (c : Nat) (b : Int32) : Nat → Option Nat
  | 0 => none
  | n + 1 => if C (c + 3) n = 2 ∧ C (c + 1) n = b then some n else kg_la C c b n
set_option maxRecDepth 100000 in
theorem cg_askForLast {c n : Nat} (hc : kg_P c) {C : kb_M} (hn : C c 7 = nI n) (hle : n ≤ 60) (b d : Int32) : kb_E (kb_en kz_Guest_askForLastOf [.inr (some c), .inl b, .inl d] C) (fun q => q = (none, match kg_la C c b n with
    | none => C
    | some t => kb_up (kb_up C (c + 3) t 3) (c + 4) t d)) := by
  have loop : ∀ (i : Nat) (v : Int32), i ≤ n → v = nI i - 1 → kb_E (kz_Guest_askForLastOf, 7, [some (.inr (some c)), some (.inl b), some (.inl d), some (.inl v)], [], C) (fun q => q = (none, match kg_la C c b i with
    | none => C
    | some t => kb_up (kb_up C (c + 3) t 3) (c + 4) t d)) := by
    intro i
    induction i with
    | zero =>
      intro v hi hv
      subst hv
      rcases hc with rfl | rfl
      all_goals
        refine kb_go 40 [7] ?_
        exact And.intro (fun _ => And.intro rfl rfl) (fun h => absurd h (by decide))
    | succ i ih =>
      intro v hi hv
      rw [nI_pred] at hv
      subst hv
      have hcl : (nI i).toNatClampNeg = i := nI_clamp (by omega)
      have hin : kb_in (nI i) 60 = true := kb_in_nI (by omega) (by omega)
      have hnx : nI i + Int32.ofInt (-1) = nI i - 1 := by rw [Int32.sub_eq_add_neg]; rfl
      have hs : kg_la C c b (i + 1) = if C (c + 3) i = 2 ∧ C (c + 1) i = b then some i else kg_la C c b i := rfl
      rw [hs]
      rcases hc with rfl | rfl
      all_goals
        refine kb_go 40 [7] ?_
        refine And.intro (fun h => absurd (of_decide_eq_true h) (nI_pos (by omega))) (fun _ => ?_)
        refine And.intro hin ?_
        refine And.intro (fun h => ?_) (fun h => ?_)
        · have h := of_decide_eq_true h
          rw [hcl] at h
          rw [if_neg (fun q => h q.1)]
          exact ih _ (by omega) hnx
        · have h := Classical.not_not.mp (of_decide_eq_false h)
          rw [hcl] at h
          refine And.intro hin ?_
          refine And.intro (fun h2 => ?_) (fun h2 => ?_)
          · have h2 := of_decide_eq_true h2
            rw [hcl] at h2
            rw [if_neg (fun q => h2 q.2)]
            exact ih _ (by omega) hnx
          · have h2 := Classical.not_not.mp (of_decide_eq_false h2)
            rw [hcl] at h2
            rw [if_pos ⟨h, h2⟩]
            refine And.intro hin (And.intro hin (And.intro rfl ?_))
            rw [hcl]
            rfl
  have h0 := loop n _ (Nat.le_refl _) rfl
  rcases hc with rfl | rfl
  all_goals
    refine kb_go 20 [7] ?_
    rw [← hn] at h0
    exact h0
/-- the earliest deadline among the first n tickets, of kind b -/
def kg_e (C : kb_M) (c : Nat) (b : Int32) : Nat → Int32
  | 0 => 2147483647
  | n + 1 => if C (c + 3) n = 3 ∧ C (c + 1) n = b ∧ C (c + 4) n < kg_e C c b n then C (c + 4) n else kg_e C c b n
set_option maxRecDepth 100000 in
theorem cg_earliest {c n : Nat} (hc : kg_P c) {C : kb_M} (hn : C c 7 = nI n) (hle : n ≤ 60) (b : Int32) : kb_E (kb_en kz_Guest_earliestDeadline [.inr (some c), .inl b] C) (fun q => q = (some (.inl (kg_e C c b n)), C)) := by
  have loop : ∀ (k i : Nat) (w v : Int32), i + k = n → w = kg_e C c b i → v = nI i → kb_E (kz_Guest_earliestDeadline, 5, [some (.inr (some c)), some (.inl b), some (.inl w), some (.inl v)], [], C) (fun q => q = (some (.inl (kg_e C c b n)), C)) := by
    intro k
    induction k with
    | zero =>
      intro i w v hi hw hv
      have hi : i = n := by omega
      subst hi; subst hv; subst hw
      rcases hc with rfl | rfl
      all_goals
        refine kb_go 40 [5] ?_
        refine And.intro (fun _ => And.intro rfl rfl) (fun h => ?_)
        have h := of_decide_eq_false h
        rw [hn] at h
        exact absurd (Int32.le_refl _) h
    | succ k ih =>
      intro i w v hi hw hv
      subst hv
      have hcl : (nI i).toNatClampNeg = i := nI_clamp (by omega)
      have hin : kb_in (nI i) 60 = true := kb_in_nI (by omega) (by omega)
      have hs : kg_e C c b (i + 1) = if C (c + 3) i = 3 ∧ C (c + 1) i = b ∧ C (c + 4) i < kg_e C c b i then C (c + 4) i else kg_e C c b i := rfl
      rw [← hw] at hs
      rcases hc with rfl | rfl
      all_goals
        refine kb_go 40 [5] ?_
        refine And.intro (fun h => ?_) (fun _ => ?_)
        · have h := of_decide_eq_true h
          rw [hn, nI_leI (by omega) (by omega)] at h
          omega
        · refine And.intro hin ?_
          refine And.intro (fun h => ?_) (fun h => ?_)
          · have h := of_decide_eq_true h
            rw [hcl] at h
            refine ih (i + 1) _ _ (by omega) ?_ (nI_succ i).symm
            rw [hs, if_neg (fun q => h q.1)]
          · have h := Classical.not_not.mp (of_decide_eq_false h)
            rw [hcl] at h
            refine And.intro hin ?_
            refine And.intro (fun h2 => ?_) (fun h2 => ?_)
            · have h2 := of_decide_eq_true h2
              rw [hcl] at h2
              refine ih (i + 1) _ _ (by omega) ?_ (nI_succ i).symm
              rw [hs, if_neg (fun q => h2 q.2.1)]
            · have h2 := Classical.not_not.mp (of_decide_eq_false h2)
              rw [hcl] at h2
              refine And.intro hin ?_
              refine And.intro (fun h3 => ?_) (fun h3 => ?_)
              · have h3 := of_decide_eq_true h3
                rw [hcl] at h3
                refine ih (i + 1) _ _ (by omega) ?_ (nI_succ i).symm
                rw [hs, if_neg (fun q => absurd q.2.2 (Int32.not_lt.mpr h3))]
              · have h3 := of_decide_eq_false h3
                rw [hcl] at h3
                refine And.intro hin ?_
                refine ih (i + 1) _ _ (by omega) ?_ (nI_succ i).symm
                rw [hs, if_pos ⟨h, h2, Int32.not_le.mp h3⟩, hcl]
  have h0 := loop n 0 2147483647 0 (by omega) rfl rfl
  rcases hc with rfl | rfl
  · exact kb_go 20 [5] h0
  · exact kb_go 20 [5] h0
end
section
/-! what ties the rows of the system (C) to the rows of the reference (R) -/
/-- guest g's tickets -/
def ki_G (C R : kb_M) (g : Nat) : Prop :=
  C (9 + 5 * g) 7 = R 39 g ∧
  (∀ t, t < kr_bd R g → C (10 + 5 * g) t = R 41 (60 * g + t) ∧ C (12 + 5 * g) t = R 42 (60 * g + t) ∧ (R 42 (60 * g + t) = 3 → C (13 + 5 * g) t = R 43 (60 * g + t))) ∧
  (∀ t, t < kr_bd R g → 2 ≤ R 42 (60 * g + t) → ∀ b, b < 2 → R 41 (60 * g + t) = nI b → ∃ r, r < 12 + 12 * b ∧ C (11 + 5 * g) t = nI r ∧ C (4 + 3 * b) r = nI (2 + g) ∧ ∀ k, k < 4 → C (5 + 3 * b) (4 * r + k) = R 44 (4 * (60 * g + t) + k)) ∧
  (∀ t u, t < kr_bd R g → u < kr_bd R g → 2 ≤ R 42 (60 * g + t) → 2 ≤ R 42 (60 * g + u) → R 41 (60 * g + t) = R 41 (60 * g + u) → C (11 + 5 * g) t = C (11 + 5 * g) u → t = u)
/-- losses -/
def ki_L (C R : kb_M) : Prop := ∀ g, g < 2 → C (9 + 5 * g) 0 = R 40 g
/-- what never changes, and the time -/
def ki_K (C R : kb_M) : Prop := C 1 0 = R 33 0 ∧ C 3 0 = 3 ∧ C 6 0 = 6 ∧ C 19 3 = 0 ∧ C 26 3 = 1
/-- who holds a resource: nobody or one of the four -/
def ki_H (C : kb_M) : Prop := ∀ b, b < 2 → ∀ r, r < 12 + 12 * b → C (4 + 3 * b) r = -1 ∨ ∃ e, e < 4 ∧ C (4 + 3 * b) r = nI e
/-- how many each holds -/
def ki_N (C R : kb_M) : Prop := ∀ b, b < 2 → ∀ e, e < 4 → kp_c (C (4 + 3 * b)) (nI e) (12 + 12 * b) = kr_c R e b
/-- transfers -/
def ki_X (C R : kb_M) : Prop := C 19 0 + C 26 0 = R 33 2 ∧ C 19 1 + C 26 1 = R 33 1
/-- application a: its slots, in the order of use -/
def ki_B (C R : kb_M) (a : Nat) (L : List Nat) : Prop :=
  L.length = kr_fr R a ∧ L.Nodup ∧ (∀ s, s ∈ L → s < 3) ∧
  (∀ s, s < 3 → s ∉ L → C (23 + 7 * a + s) 0 = -1 ∧ C (23 + 7 * a + s) 1 = -1 ∧ C (23 + 7 * a + s) 3 = 0) ∧
  (∀ j s : Nat, L[j]? = some s → C (23 + 7 * a + s) 1 = R 36 (3 * a + j) ∧ C (23 + 7 * a + s) 3 = R 37 (3 * a + j) ∧ (∃ r, r < 12 ∧ C (23 + 7 * a + s) 0 = nI r ∧ C 4 r = nI a) ∧ (∃ f p, f < 6 ∧ p < 6 ∧ 4 * p < kr_sz R (6 * a + f) ∧ R 36 (3 * a + j) = nI (6 * f + p)) ∧ ∃ u v, C (23 + 7 * a + s) 2 = nI u ∧ C (19 + 7 * a) 7 = nI v ∧ u ≤ v ∧ v < 1000000) ∧
  (∀ j i s z : Nat, j < i → L[j]? = some s → L[i]? = some z → C (23 + 7 * a + s) 2 < C (23 + 7 * a + z) 2 ∧ R 36 (3 * a + j) ≠ R 36 (3 * a + i) ∧ C (23 + 7 * a + s) 0 ≠ C (23 + 7 * a + z) 0)
/-- its blocks -/
def ki_P (C R : kb_M) (a : Nat) : Prop :=
  (∀ f p, f < 6 → p < 6 → 4 * p < kr_sz R (6 * a + f) → ∃ r, r < 24 ∧ C (21 + 7 * a) (6 * f + p) = nI r ∧ C 7 r = nI a) ∧
  (∀ f p, f < 6 → p < 6 → ¬ 4 * p < kr_sz R (6 * a + f) → C (21 + 7 * a) (6 * f + p) = -1) ∧
  (∀ i j, i < 36 → j < 36 → C (21 + 7 * a) i ≠ -1 → C (21 + 7 * a) i = C (21 + 7 * a) j → i = j)
/-- its words -/
def ki_W (C R : kb_M) (a : Nat) : Prop := ∀ f i r, f < 6 → i < kr_sz R (6 * a + f) → C (21 + 7 * a) (6 * f + i / 4) = nI r → r < 24 →
  (∀ s r0, s < 3 → C (23 + 7 * a + s) 1 = nI (6 * f + i / 4) → C (23 + 7 * a + s) 0 = nI r0 → r0 < 12 → C 5 (4 * r0 + i % 4) = R 34 (144 * a + 24 * f + i) ∧ (C (23 + 7 * a + s) 3 = 0 → C 8 (4 * r + i % 4) = R 34 (144 * a + 24 * f + i))) ∧
  ((∀ s, s < 3 → C (23 + 7 * a + s) 1 ≠ nI (6 * f + i / 4)) → C 8 (4 * r + i % 4) = R 34 (144 * a + 24 * f + i))
def ki_A (N : Nat) (C R : kb_M) (a : Nat) : Prop := ((∀ f, f < 6 → C (20 + 7 * a) f = R 35 (6 * a + f)) ∧ kr_b R a 6 ≤ 6) ∧ (∃ u, C (19 + 7 * a) 7 = nI u ∧ u ≤ N) ∧ ki_P C R a ∧ (∃ L, ki_B C R a L) ∧ ki_W C R a
theorem kr_b_eq {R S : kb_M} (h : S 35 = R 35) {a n : Nat} : kr_b S a n = kr_b R a n := by
  induction n with
  | zero => rfl
  | succ n ih => unfold kr_b kr_sz; rw [ih, h]
/-- what e owns stays as it is -/
def ki_keep (C D : kb_M) (e : Nat) : Prop := ∀ b, b < 2 → ∀ r, r < 12 + 12 * b → C (4 + 3 * b) r = nI e → D (4 + 3 * b) r = nI e ∧ ∀ k, k < 4 → D (5 + 3 * b) (4 * r + k) = C (5 + 3 * b) (4 * r + k)
theorem kk_refl (C : kb_M) (e : Nat) : ki_keep C C e := fun _ _ _ _ h => ⟨h, fun _ _ => rfl⟩
theorem kk_rows {C D : kb_M} (e : Nat) (h : ∀ b, b < 2 → D (4 + 3 * b) = C (4 + 3 * b) ∧ D (5 + 3 * b) = C (5 + 3 * b)) : ki_keep C D e := by
  intro b hb r hr hc
  rw [(h b hb).1, (h b hb).2]
  exact ⟨hc, fun _ _ => rfl⟩
theorem kk_trans {C D E : kb_M} {e : Nat} (h1 : ki_keep C D e) (h2 : ki_keep D E e) : ki_keep C E e := by
  intro b hb r hr hc
  obtain ⟨a1, a2⟩ := h1 b hb r hr hc
  obtain ⟨b1, b2⟩ := h2 b hb r hr a1
  exact ⟨b1, fun k hk => by rw [b2 k hk, a2 k hk]⟩
theorem kk_hold {C : kb_M} {b r e : Nat} (x : Int32) (hb : b < 2) (hne : C (4 + 3 * b) r ≠ nI e) : ki_keep C (kb_up C (4 + 3 * b) r x) e := by
  intro c hc q hq h
  refine ⟨?_, fun k hk => by rw [kb_up_ne _ _ _ (by omega)]⟩
  by_cases hbc : c = b
  · subst hbc
    rw [kb_up_at]
    have : q ≠ r := fun z => hne (by rw [← z]; exact h)
    rw [pk_un this]
    exact h
  · rw [kb_up_ne _ _ _ (by omega)]
    exact h
theorem kk_words {C : kb_M} {b r e : Nat} {f : Nat → Int32} (hb : b < 2) (hne : C (4 + 3 * b) r ≠ nI e) (hf : ∀ j, j / 4 ≠ r → f j = C (5 + 3 * b) j) : ki_keep C (kb_ro C (5 + 3 * b) f) e := by
  intro c hc q hq h
  refine ⟨by rw [kb_ro_ne _ _ (by omega)]; exact h, fun k hk => ?_⟩
  by_cases hbc : c = b
  · subst hbc
    rw [kb_ro_at]
    have : q ≠ r := fun z => hne (by rw [← z]; exact h)
    exact hf _ (by omega)
  · rw [kb_ro_ne _ _ (by omega)]
theorem kk_word {C : kb_M} {b r e k : Nat} (w : Int32) (hb : b < 2) (hk : k < 4) (hne : C (4 + 3 * b) r ≠ nI e) : ki_keep C (kb_up C (5 + 3 * b) (4 * r + k) w) e := kk_words hb hne (fun j hj => pk_un (by omega))
theorem kk_other {C : kb_M} {k i : Nat} (x : Int32) (e : Nat) (h : ∀ b, b < 2 → k ≠ 4 + 3 * b ∧ k ≠ 5 + 3 * b) : ki_keep C (kb_up C k i x) e := kk_rows e (fun b hb => ⟨kb_up_ne _ _ _ (fun q => (h b hb).1 q.symm), kb_up_ne _ _ _ (fun q => (h b hb).2 q.symm)⟩)
/-- the reference's rows of guest g stay -/
def kr_sg (R S : kb_M) (g : Nat) : Prop := S 39 g = R 39 g ∧ (∀ t, t < 60 → S 41 (60 * g + t) = R 41 (60 * g + t) ∧ S 42 (60 * g + t) = R 42 (60 * g + t) ∧ S 43 (60 * g + t) = R 43 (60 * g + t)) ∧ ∀ t k, t < 60 → k < 4 → S 44 (4 * (60 * g + t) + k) = R 44 (4 * (60 * g + t) + k)
theorem ki_G_fr {C D R S : kb_M} {g : Nat} (h : ki_G C R g) (hR : kr_ok R) (hg : g < 2) (hrow : ∀ k, 9 + 5 * g ≤ k → k ≤ 13 + 5 * g → D k = C k) (hs : kr_sg R S g) (hk : ki_keep C D (2 + g)) : ki_G D S g := by
  obtain ⟨h1, h2, h3, h4⟩ := h
  obtain ⟨s1, s2, s3⟩ := hs
  have hle := (hR.1 g hg).2
  have hbd : kr_bd S g = kr_bd R g := by unfold kr_bd; rw [s1]
  have d1 := hrow (9 + 5 * g) (by omega) (by omega)
  have d2 := hrow (10 + 5 * g) (by omega) (by omega)
  have d3 := hrow (11 + 5 * g) (by omega) (by omega)
  have d4 := hrow (12 + 5 * g) (by omega) (by omega)
  have d5 := hrow (13 + 5 * g) (by omega) (by omega)
  unfold ki_G
  rw [hbd, d1, d2, d3, d4, d5, s1]
  refine ⟨h1, fun t ht => ?_, fun t ht hl b hb hkd => ?_, fun t u ht hu hl1 hl2 hkd he => ?_⟩
  · obtain ⟨a1, a2, a3⟩ := s2 t (by omega)
    rw [a1, a2, a3]
    exact h2 t ht
  · obtain ⟨a1, a2, a3⟩ := s2 t (by omega)
    rw [a2] at hl
    rw [a1] at hkd
    obtain ⟨r, r1, r2, r3, r4⟩ := h3 t ht hl b hb hkd
    obtain ⟨k1, k2⟩ := hk b hb r r1 r3
    exact ⟨r, r1, r2, k1, fun k hk4 => by rw [k2 k hk4, r4 k hk4, s3 t k (by omega) hk4]⟩
  · obtain ⟨a1, a2, a3⟩ := s2 t (by omega)
    obtain ⟨b1, b2, b3⟩ := s2 u (by omega)
    rw [a2] at hl1
    rw [b2] at hl2
    rw [a1, b1] at hkd
    exact h4 t u ht hu hl1 hl2 hkd he
theorem ki_A_fr {N : Nat} {C D R S : kb_M} {a : Nat} (h : ki_A N C R a) (hR : kr_ok R) (ha : a < 2) (hrow : ∀ k, 19 + 7 * a ≤ k → k ≤ 25 + 7 * a → D k = C k) (hs : ∀ k, 34 ≤ k → k ≤ 38 → S k = R k) (hk : ki_keep C D a) : ki_A N D S a := by
  obtain ⟨h1, h2, ⟨p1, p2, p3⟩, ⟨L, l1, l2, l3, l4, l5, l6⟩, hw⟩ := h
  have s34 := hs 34 (by omega) (by omega)
  have s35 := hs 35 (by omega) (by omega)
  have s36 := hs 36 (by omega) (by omega)
  have s37 := hs 37 (by omega) (by omega)
  have s38 := hs 38 (by omega) (by omega)
  have d1 := hrow (19 + 7 * a) (by omega) (by omega)
  have d2 := hrow (20 + 7 * a) (by omega) (by omega)
  have d3 := hrow (21 + 7 * a) (by omega) (by omega)
  have ds : ∀ s, s < 3 → D (23 + 7 * a + s) = C (23 + 7 * a + s) := fun s hs => hrow _ (by omega) (by omega)
  refine ⟨?_, ?_, ⟨?_, ?_, ?_⟩, ⟨L, ?_, l2, l3, ?_, ?_, ?_⟩, ?_⟩
  · rw [d2, s35, kr_b_eq s35]; exact h1
  · rw [d1]; exact h2
  · intro f p hf hp hlt
    unfold kr_sz at hlt
    rw [s35] at hlt
    obtain ⟨r, r1, r2, r3⟩ := p1 f p hf hp hlt
    exact ⟨r, r1, by rw [d3]; exact r2, (hk 1 (by decide) r r1 r3).1⟩
  · intro f p hf hp hlt
    unfold kr_sz at hlt
    rw [s35] at hlt
    rw [d3]
    exact p2 f p hf hp hlt
  · rw [d3]; exact p3
  · rw [l1]; unfold kr_fr; rw [s38]
  · intro s hs hn
    rw [ds s hs]
    exact l4 s hs hn
  · intro j s hj
    have hs3 := l3 s (List.mem_of_getElem? hj)
    obtain ⟨q1, q2, ⟨r, r1, r2, r3⟩, ⟨f, p, f1, f2, f3, f4⟩, q5⟩ := l5 j s hj
    rw [ds s hs3, d1, s36, s37]
    exact ⟨q1, q2, ⟨r, r1, r2, (hk 0 (by decide) r r1 r3).1⟩, ⟨f, p, f1, f2, by unfold kr_sz; rw [s35]; exact f3, f4⟩, q5⟩
  · intro j i s z hji hj hi
    rw [ds s (l3 s (List.mem_of_getElem? hj)), ds z (l3 z (List.mem_of_getElem? hi)), s36]
    exact l6 j i s z hji hj hi
  · intro f i r hf hi hr hr24
    unfold kr_sz at hi
    rw [s35] at hi
    rw [d3] at hr
    have hown : C 7 r = nI a := by
      by_cases h6 : i / 4 < 6
      · obtain ⟨r', r1, r2, r3⟩ := p1 f (i / 4) hf h6 (by have : (R 35 (6 * a + f)).toNatClampNeg = kr_sz R (6 * a + f) := rfl; omega)
        have e : nI r = nI r' := hr.symm.trans r2
        rw [nI_eq (by omega) (by omega)] at e
        rw [e]
        exact r3
      · exfalso
        have h24 := (hR.2.1 (6 * a + f) (by omega)).2
        have : (R 35 (6 * a + f)).toNatClampNeg = kr_sz R (6 * a + f) := rfl
        omega
    obtain ⟨w1, w2⟩ := hw f i r hf hi hr hr24
    have e8 : ∀ k, k < 4 → D 8 (4 * r + k) = C 8 (4 * r + k) := (hk 1 (by decide) r hr24 hown).2
    refine ⟨fun s r0 hs3 hp h0 hr0 => ?_, fun hno => ?_⟩
    · rw [ds s hs3] at hp h0
      rw [ds s hs3]
      obtain ⟨v1, v2⟩ := w1 s r0 hs3 hp h0 hr0
      have hm : s ∈ L := by
        by_cases hm : s ∈ L
        · exact hm
        · exfalso
          have := (l4 s hs3 hm).1
          rw [h0] at this
          exact absurd (this ▸ nI_pos (n := r0) (by omega) : ¬ (-1 : Int32) < 0) (by decide)
      obtain ⟨j, hj⟩ := List.getElem?_of_mem hm
      obtain ⟨-, -, ⟨r', r1, r2, r3⟩, -⟩ := l5 j s hj
      have e : nI r0 = nI r' := h0.symm.trans r2
      rw [nI_eq (by omega) (by omega)] at e
      subst e
      have e5 : ∀ k, k < 4 → D 5 (4 * r0 + k) = C 5 (4 * r0 + k) := (hk 0 (by decide) r0 r1 r3).2
      rw [e5 _ (by omega), e8 _ (by omega), s34]
      exact ⟨v1, v2⟩
    · rw [e8 _ (by omega), s34]
      exact w2 (fun s hs3 => by rw [← ds s hs3]; exact hno s hs3)
theorem kp_c_upd {f : Nat → Int32} {r : Nat} {x e : Int32} : ∀ n, r < n → kp_c (upd f r x) e n + (if f r = e then 1 else 0) = kp_c f e n + (if x = e then 1 else 0) := by
  intro n
  induction n with
  | zero => intro h; omega
  | succ n ih =>
    intro h
    unfold kp_c
    by_cases hr : r = n
    · subst hr
      have e0 : ∀ m, m ≤ r → kp_c (upd f r x) e m = kp_c f e m := by
        intro m
        induction m with
        | zero => intro _; rfl
        | succ m ihm =>
          intro hm
          unfold kp_c
          rw [ihm (by omega), pk_un (by omega)]
      rw [e0 r (Nat.le_refl _), pk_us]
      omega
    · have h1 := ih (by omega)
      rw [pk_un (fun q => hr q.symm)]
      omega
theorem kp_c_pos {f : Nat → Int32} {r : Nat} {e : Int32} : ∀ n, r < n → f r = e → 0 < kp_c f e n := by
  intro n
  induction n with
  | zero => intro h; omega
  | succ n ih =>
    intro h he
    unfold kp_c
    by_cases hr : r = n
    · subst hr; rw [if_pos he]; omega
    · have := ih (by omega) he; omega
/-- all of n are nobody's or of one of the four -/
theorem kp_c_sum {f : Nat → Int32} : ∀ n, (∀ r, r < n → f r = -1 ∨ ∃ e : Nat, e < 4 ∧ f r = nI e) → kp_c f (-1) n + kp_c f (nI 0) n + kp_c f (nI 1) n + kp_c f (nI 2) n + kp_c f (nI 3) n = n := by
  intro n
  induction n with
  | zero => intro _; rfl
  | succ n ih =>
    intro h
    have h1 := ih (fun r hr => h r (by omega))
    unfold kp_c
    rcases h n (by omega) with h2 | ⟨e, he, h2⟩
    · rw [h2, if_pos rfl, if_neg (by decide), if_neg (by decide), if_neg (by decide), if_neg (by decide)]
      omega
    · rw [h2]
      match e, he with
      | 0, _ => rw [if_neg (by decide), if_pos rfl, if_neg (by decide), if_neg (by decide), if_neg (by decide)]; omega
      | 1, _ => rw [if_neg (by decide), if_neg (by decide), if_pos rfl, if_neg (by decide), if_neg (by decide)]; omega
      | 2, _ => rw [if_neg (by decide), if_neg (by decide), if_neg (by decide), if_pos rfl, if_neg (by decide)]; omega
      | 3, _ => rw [if_neg (by decide), if_neg (by decide), if_neg (by decide), if_neg (by decide), if_pos rfl]; omega
theorem kr_l_eq {R S : kb_M} {g : Nat} {b : Int32} : ∀ n, (∀ t, t < n → S 41 (60 * g + t) = R 41 (60 * g + t) ∧ (2 ≤ S 42 (60 * g + t) ↔ 2 ≤ R 42 (60 * g + t))) → kr_l S g b n = kr_l R g b n := by
  intro n
  induction n with
  | zero => intro _; rfl
  | succ n ih =>
    intro h
    unfold kr_l
    obtain ⟨h1, h2⟩ := h n (by omega)
    rw [ih (fun t ht => h t (by omega)), h1]
    by_cases h3 : 2 ≤ R 42 (60 * g + n)
    · by_cases h4 : R 41 (60 * g + n) = b
      · rw [if_pos ⟨h2.mpr h3, h4⟩, if_pos ⟨h3, h4⟩]
      · rw [if_neg (fun q => h4 q.2), if_neg (fun q => h4 q.2)]
    · rw [if_neg (fun q => h3 (h2.mp q.1)), if_neg (fun q => h3 q.1)]
/-- one ticket ends -/
theorem kr_l_end {R S : kb_M} {g t : Nat} {b : Int32} : ∀ n, t < n → (∀ u, u < n → S 41 (60 * g + u) = R 41 (60 * g + u)) → (∀ u, u < n → u ≠ t → S 42 (60 * g + u) = R 42 (60 * g + u)) → 2 ≤ R 42 (60 * g + t) → ¬ 2 ≤ S 42 (60 * g + t) → kr_l S g b n + (if R 41 (60 * g + t) = b then 1 else 0) = kr_l R g b n := by
  intro n
  induction n with
  | zero => intro h; omega
  | succ n ih =>
    intro ht h41 h42 hl hs
    unfold kr_l
    by_cases hn : t = n
    · subst hn
      have e0 : kr_l S g b t = kr_l R g b t := kr_l_eq t (fun u hu => ⟨h41 u (by omega), by rw [h42 u (by omega) (by omega)]⟩)
      rw [e0, if_neg (fun q => hs q.1)]
      by_cases hb : R 41 (60 * g + t) = b
      · rw [if_pos hb, if_pos ⟨hl, hb⟩]
      · rw [if_neg hb, if_neg (fun q => hb q.2)]
    · have h1 := ih (by omega) (fun u hu => h41 u (by omega)) (fun u hu hne => h42 u (by omega) hne) hl hs
      rw [h41 n (by omega), h42 n (by omega) (fun q => hn q.symm)]
      omega
end
section
/-! what happens to both sides at once keeps what ties them -/
def ki_J (N : Nat) (C R : kb_M) : Prop := kr_ok R ∧ (∀ j, j < 120 → ∃ s, s < 4 ∧ R 42 j = nI s) ∧ ki_H C ∧ ki_N C R ∧ (∀ g, g < 2 → ki_G C R g) ∧ (∀ a, a < 2 → ki_A N C R a)
theorem kr_c_app {R S : kb_M} (h35 : S 35 = R 35) (h38 : S 38 = R 38) {e : Nat} (he : e < 2) (b : Nat) : kr_c S e b = kr_c R e b := by
  unfold kr_c
  rw [if_pos he, if_pos he]
  have hb : ∀ n, kr_b S e n = kr_b R e n := by
    intro n
    induction n with
    | zero => rfl
    | succ n ih => unfold kr_b kr_sz; rw [ih, h35]
  unfold kr_fr
  rw [h38, hb]
theorem kr_c_g {R : kb_M} {g : Nat} (hg : g < 2) (b : Nat) : kr_c R (2 + g) b = kr_l R g (nI b) (kr_bd R g) := by
  unfold kr_c
  rw [if_neg (by omega), show 2 + g - 2 = g by omega]
theorem kr_env2 {e : Nat} (he : e < 4) : e < 2 ∨ ∃ g, g < 2 ∧ e = 2 + g := by
  by_cases h : e < 2
  · exact Or.inl h
  · exact Or.inr ⟨e - 2, by omega, by omega⟩
theorem nI_ne {a b : Nat} (ha : a < 1000) (hb : b < 1000) (h : a ≠ b) : nI a ≠ nI b := fun q => h ((nI_eq (by omega) (by omega)).mp q)
theorem nI_m1 {a : Nat} (ha : a < 1000) : nI a ≠ -1 := fun q => by
  have h := nI_pos (n := a) (by omega)
  rw [q] at h
  exact h (by decide)
theorem kr_2 {s : Nat} (hs : s < 1000) : (2 : Int32) ≤ nI s ↔ 2 ≤ s := nI_leI (a := 2) (by omega) (by omega)
theorem kp_hn {C : kb_M} (hH : ki_H C) {b : Nat} (hb : b < 2) : ∀ r, r < 12 + 12 * b → C (4 + 3 * b) r = -1 ∨ ∃ e, e < 4 ∧ C (4 + 3 * b) r = nI e := hH b hb
set_option maxHeartbeats 1000000 in
/-- a live ticket ends -/
theorem ki_end {N : Nat} {C R : kb_M} (h : ki_J N C R) {g t b r s : Nat} (hg : g < 2) (ht : t < kr_bd R g) (hl : 2 ≤ R 42 (60 * g + t)) (hb : b < 2) (hkd : R 41 (60 * g + t) = nI b) (hr : r < 12 + 12 * b) (hres : C (11 + 5 * g) t = nI r) (hs : s < 2) :
    ki_J N (kb_up (kb_up C (12 + 5 * g) t (nI s)) (4 + 3 * b) r (-1)) (kb_up R 42 (60 * g + t) (nI s)) := by
  obtain ⟨hR, hst, hH, hN, hG, hA⟩ := h
  have hle := (hR.1 g hg).2
  obtain ⟨g1, g2, g3, g4⟩ := hG g hg
  have hown : C (4 + 3 * b) r = nI (2 + g) := by
    obtain ⟨r', q1, q2, q3, -⟩ := g3 t ht hl b hb hkd
    have e : nI r = nI r' := hres.symm.trans q2
    rw [nI_eq (by omega) (by omega)] at e
    rw [e]; exact q3
  have eC : ∀ k, k ≠ 12 + 5 * g → k ≠ 4 + 3 * b → (kb_up (kb_up C (12 + 5 * g) t (nI s)) (4 + 3 * b) r (-1)) k = C k := fun k h1 h2 => by rw [kb_up_ne _ _ _ h2, kb_up_ne _ _ _ h1]
  have eH : (kb_up (kb_up C (12 + 5 * g) t (nI s)) (4 + 3 * b) r (-1)) (4 + 3 * b) = upd (C (4 + 3 * b)) r (-1) := by rw [kb_up_at, kb_up_ne _ _ _ (by omega)]
  have eT : (kb_up (kb_up C (12 + 5 * g) t (nI s)) (4 + 3 * b) r (-1)) (12 + 5 * g) = upd (C (12 + 5 * g)) t (nI s) := by rw [kb_up_ne _ _ _ (by omega), kb_up_at]
  have eR : ∀ k, k ≠ 42 → (kb_up R 42 (60 * g + t) (nI s)) k = R k := fun k h1 => kb_up_ne _ _ _ h1
  have e42 : (kb_up R 42 (60 * g + t) (nI s)) 42 = upd (R 42) (60 * g + t) (nI s) := kb_up_at _ _ _ _
  have ebd : ∀ q, kr_bd (kb_up R 42 (60 * g + t) (nI s)) q = kr_bd R q := fun q => by unfold kr_bd; rw [eR 39 (by decide)]
  have keep : ∀ e, e < 4 → e ≠ 2 + g → ki_keep C (kb_up (kb_up C (12 + 5 * g) t (nI s)) (4 + 3 * b) r (-1)) e := by
    intro e he hne
    refine kk_trans (kk_other _ _ (fun c hc => ⟨by omega, by omega⟩)) (kk_hold _ hb ?_)
    rw [kb_up_ne _ _ _ (by omega), hown]
    exact nI_ne (by omega) (by omega) (fun q => hne q.symm)
  have hR' : kr_ok (kb_up R 42 (60 * g + t) (nI s)) := kr_ok_eq hR (eR _ (by decide)) (eR _ (by decide)) (eR _ (by decide)) (eR _ (by decide)) (eR _ (by decide))
  have nl : ¬ (2 : Int32) ≤ nI s := by rw [kr_2 (by omega)]; omega
  refine ⟨hR', fun j hj => ?_, fun c hc q hq => ?_, fun c hc e he => ?_, fun d hd => ?_, fun a ha => ?_⟩
  · rw [e42]
    unfold upd
    by_cases hjt : j = 60 * g + t
    · rw [if_pos hjt]; exact ⟨s, by omega, rfl⟩
    · rw [if_neg hjt]; exact hst j hj
  · by_cases hcb : c = b
    · subst hcb
      rw [eH]
      unfold upd
      by_cases hqr : q = r
      · rw [if_pos hqr]; exact Or.inl rfl
      · rw [if_neg hqr]; exact hH c hc q hq
    · rw [eC _ (by omega) (by omega)]
      exact hH c hc q hq
  · have hold := hN c hc e he
    rcases kr_env2 he with he2 | ⟨d, hd, rfl⟩
    · rw [kr_c_app (eR 35 (by decide)) (eR 38 (by decide)) he2, ← hold]
      by_cases hcb : c = b
      · subst hcb
        rw [eH]
        have h1 := kp_c_upd (f := C (4 + 3 * c)) (x := -1) (e := nI e) (12 + 12 * c) hr
        rw [hown, if_neg (nI_ne (by omega) (by omega) (by omega)), if_neg (fun q => nI_m1 (by omega) q.symm)] at h1
        omega
      · rw [eC _ (by omega) (by omega)]
    · rw [kr_c_g hd, ebd]
      rw [kr_c_g hd] at hold
      by_cases hdg : d = g
      · subst hdg
        have h2 := kr_l_end (R := R) (S := kb_up R 42 (60 * d + t) (nI s)) (g := d) (t := t) (b := nI c) (kr_bd R d) ht (fun u _ => by rw [eR 41 (by decide)]) (fun u _ hu => by rw [e42]; exact pk_un (by omega)) hl (by rw [e42, pk_us]; exact nl)
        rw [hkd] at h2
        by_cases hcb : c = b
        · subst hcb
          rw [if_pos rfl] at h2
          rw [eH]
          have h1 := kp_c_upd (f := C (4 + 3 * c)) (x := -1) (e := nI (2 + d)) (12 + 12 * c) hr
          rw [hown, if_pos rfl, if_neg (fun q => nI_m1 (by omega) q.symm)] at h1
          omega
        · rw [if_neg (nI_ne (by omega) (by omega) (fun q => hcb q.symm))] at h2
          rw [eC _ (by omega) (by omega), hold]
          omega
      · rw [kr_l_eq (R := R) _ (fun u hu => ⟨by rw [eR 41 (by decide)], by
          have hdl := (hR.1 d hd).2
          rw [e42, pk_un (by omega)]⟩), ← hold]
        by_cases hcb : c = b
        · subst hcb
          rw [eH]
          have h1 := kp_c_upd (f := C (4 + 3 * c)) (x := -1) (e := nI (2 + d)) (12 + 12 * c) hr
          rw [hown, if_neg (nI_ne (by omega) (by omega) (by omega)), if_neg (fun q => nI_m1 (by omega) q.symm)] at h1
          omega
        · rw [eC _ (by omega) (by omega)]
  · by_cases hdg : d = g
    · subst hdg
      unfold ki_G
      rw [ebd, eC (9 + 5 * d) (by omega) (by omega), eC (10 + 5 * d) (by omega) (by omega), eC (11 + 5 * d) (by omega) (by omega), eC (13 + 5 * d) (by omega) (by omega), eT, eR 39 (by decide), eR 41 (by decide), eR 43 (by decide), e42, eR 44 (by decide)]
      have dead : ∀ u, 2 ≤ upd (R 42) (60 * d + t) (nI s) (60 * d + u) → u ≠ t ∧ 2 ≤ R 42 (60 * d + u) := by
        intro u hu
        by_cases hut : u = t
        · subst hut
          rw [pk_us] at hu
          exact absurd hu nl
        · rw [pk_un (by omega)] at hu
          exact ⟨hut, hu⟩
      refine ⟨g1, fun u hu => ?_, fun u hu hlu c hc hku => ?_, fun u v hu hv hlu hlv hkv he => ?_⟩
      · by_cases hut : u = t
        · subst hut
          rw [pk_us, pk_us]
          refine ⟨(g2 u hu).1, rfl, fun q => ?_⟩
          rw [show (3 : Int32) = nI 3 from rfl, nI_eq (by omega) (by omega)] at q
          omega
        · rw [pk_un hut, pk_un (by omega)]
          exact g2 u hu
      · obtain ⟨hut, hlu⟩ := dead u hlu
        obtain ⟨r', q1, q2, q3, q4⟩ := g3 u hu hlu c hc hku
        refine ⟨r', q1, q2, ?_, fun k hk => by rw [eC _ (by omega) (by omega)]; exact q4 k hk⟩
        by_cases hcb : c = b
        · subst hcb
          rw [eH, pk_un (fun q => hut (g4 u t hu ht hlu hl (hku.trans hkd.symm) (by rw [q2, hres, q])))]
          exact q3
        · rw [eC _ (by omega) (by omega)]
          exact q3
      · exact g4 u v hu hv (dead u hlu).2 (dead v hlv).2 hkv he
    · refine ki_G_fr (hG d hd) hR hd (fun k h1 h2 => eC k (by omega) (by omega)) ⟨by rw [eR 39 (by decide)], fun u hu => ⟨by rw [eR 41 (by decide)], by rw [e42, pk_un (by omega)], by rw [eR 43 (by decide)]⟩, fun u k _ _ => by rw [eR 44 (by decide)]⟩ (keep (2 + d) (by omega) (by omega))
  · exact ki_A_fr (hA a ha) hR ha (fun k h1 h2 => eC k (by omega) (by omega)) (fun k h1 h2 => eR k (by omega)) (keep a (by omega) (by omega))
set_option maxHeartbeats 1000000 in
/-- a ticket is asked for -/
theorem ki_ask {N : Nat} {C R : kb_M} (h : ki_J N C R) {g t : Nat} (hg : g < 2) (ht : t < kr_bd R g) (hl : R 42 (60 * g + t) = 2) (d : Int32) :
    ki_J N (kb_up (kb_up C (12 + 5 * g) t 3) (13 + 5 * g) t d) (kb_up (kb_up R 42 (60 * g + t) 3) 43 (60 * g + t) d) := by
  obtain ⟨hR, hst, hH, hN, hG, hA⟩ := h
  have hle := (hR.1 g hg).2
  obtain ⟨g1, g2, g3, g4⟩ := hG g hg
  have eC : ∀ k, k ≠ 12 + 5 * g → k ≠ 13 + 5 * g → (kb_up (kb_up C (12 + 5 * g) t 3) (13 + 5 * g) t d) k = C k := fun k h1 h2 => by rw [kb_up_ne _ _ _ h2, kb_up_ne _ _ _ h1]
  have eS : (kb_up (kb_up C (12 + 5 * g) t 3) (13 + 5 * g) t d) (12 + 5 * g) = upd (C (12 + 5 * g)) t 3 := by rw [kb_up_ne _ _ _ (by omega), kb_up_at]
  have eD : (kb_up (kb_up C (12 + 5 * g) t 3) (13 + 5 * g) t d) (13 + 5 * g) = upd (C (13 + 5 * g)) t d := by rw [kb_up_at, kb_up_ne _ _ _ (by omega)]
  have eR : ∀ k, k ≠ 42 → k ≠ 43 → (kb_up (kb_up R 42 (60 * g + t) 3) 43 (60 * g + t) d) k = R k := fun k h1 h2 => by rw [kb_up_ne _ _ _ h2, kb_up_ne _ _ _ h1]
  have e42 : (kb_up (kb_up R 42 (60 * g + t) 3) 43 (60 * g + t) d) 42 = upd (R 42) (60 * g + t) 3 := by rw [kb_up_ne _ _ _ (by omega), kb_up_at]
  have e43 : (kb_up (kb_up R 42 (60 * g + t) 3) 43 (60 * g + t) d) 43 = upd (R 43) (60 * g + t) d := by rw [kb_up_at, kb_up_ne _ _ _ (by omega)]
  have ebd : ∀ q, kr_bd (kb_up (kb_up R 42 (60 * g + t) 3) 43 (60 * g + t) d) q = kr_bd R q := fun q => by unfold kr_bd; rw [eR 39 (by decide) (by decide)]
  have keep : ∀ e, ki_keep C (kb_up (kb_up C (12 + 5 * g) t 3) (13 + 5 * g) t d) e := fun e => kk_rows e (fun b hb => ⟨eC _ (by omega) (by omega), eC _ (by omega) (by omega)⟩)
  have hR' : kr_ok (kb_up (kb_up R 42 (60 * g + t) 3) 43 (60 * g + t) d) := kr_ok_eq hR (eR _ (by decide) (by decide)) (eR _ (by decide) (by decide)) (eR _ (by decide) (by decide)) (eR _ (by decide) (by decide)) (eR _ (by decide) (by decide))
  have live : ∀ j, 2 ≤ upd (R 42) (60 * g + t) 3 j ↔ 2 ≤ R 42 j := by
    intro j
    unfold upd
    by_cases hj : j = 60 * g + t
    · rw [if_pos hj, hj, hl]
      exact ⟨fun _ => by decide, fun _ => by decide⟩
    · rw [if_neg hj]
  refine ⟨hR', fun j hj => ?_, fun c hc q hq => ?_, fun c hc e he => ?_, fun f hf => ?_, fun a ha => ?_⟩
  · rw [e42]
    unfold upd
    by_cases hjt : j = 60 * g + t
    · rw [if_pos hjt]; exact ⟨3, by omega, rfl⟩
    · rw [if_neg hjt]; exact hst j hj
  · rw [eC _ (by omega) (by omega)]
    exact hH c hc q hq
  · have hold := hN c hc e he
    rw [eC _ (by omega) (by omega), hold]
    rcases kr_env2 he with he2 | ⟨f, hf, rfl⟩
    · rw [kr_c_app (eR 35 (by decide) (by decide)) (eR 38 (by decide) (by decide)) he2]
    · have e := kr_l_eq (R := R) (S := kb_up (kb_up R 42 (60 * g + t) 3) 43 (60 * g + t) d) (g := f) (b := nI c) (kr_bd R f) (fun u hu => ⟨by rw [eR 41 (by decide) (by decide)], by rw [e42]; exact live _⟩)
      rw [kr_c_g hf, kr_c_g hf, ebd, e]
  · by_cases hfg : f = g
    · subst hfg
      unfold ki_G
      rw [ebd, eC (9 + 5 * f) (by omega) (by omega), eC (10 + 5 * f) (by omega) (by omega), eC (11 + 5 * f) (by omega) (by omega), eS, eD, eR 39 (by decide) (by decide), eR 41 (by decide) (by decide), e42, e43, eR 44 (by decide) (by decide)]
      refine ⟨g1, fun u hu => ?_, fun u hu hlu c hc hku => ?_, fun u v hu hv hlu hlv hkv he => ?_⟩
      · by_cases hut : u = t
        · subst hut
          rw [pk_us, pk_us, pk_us, pk_us]
          exact ⟨(g2 u hu).1, rfl, fun _ => rfl⟩
        · rw [pk_un hut, pk_un (by omega), pk_un hut, pk_un (by omega)]
          exact g2 u hu
      · obtain ⟨r', q1, q2, q3, q4⟩ := g3 u hu ((live _).mp hlu) c hc hku
        exact ⟨r', q1, q2, by rw [eC _ (by omega) (by omega)]; exact q3, fun k hk => by rw [eC _ (by omega) (by omega)]; exact q4 k hk⟩
      · exact g4 u v hu hv ((live _).mp hlu) ((live _).mp hlv) hkv he
    · exact ki_G_fr (hG f hf) hR hf (fun k h1 h2 => eC k (by omega) (by omega)) ⟨by rw [eR 39 (by decide) (by decide)], fun u hu => ⟨by rw [eR 41 (by decide) (by decide)], by rw [e42, pk_un (by omega)], by rw [e43, pk_un (by omega)]⟩, fun u k _ _ => by rw [eR 44 (by decide) (by decide)]⟩ (keep (2 + f))
  · exact ki_A_fr (hA a ha) hR ha (fun k h1 h2 => eC k (by omega) (by omega)) (fun k h1 h2 => eR k (by omega) (by omega)) (keep a)
set_option maxHeartbeats 1000000 in
/-- guest g gets one more binding -/
theorem ki_bind {N : Nat} {C R : kb_M} (h : ki_J N C R) {g b r : Nat} (hg : g < 2) (hb : b < 2) (hn : kr_bd R g < 60) (hr : r < 12 + 12 * b) (hfree : C (4 + 3 * b) r = -1) :
    ki_J N (kb_up (kb_up (kb_up (kb_up (kb_ro (kb_up C (4 + 3 * b) r (nI (2 + g))) (5 + 3 * b) (fun j => if j / 4 = r then 0 else C (5 + 3 * b) j)) (10 + 5 * g) (kr_bd R g) (nI b)) (11 + 5 * g) (kr_bd R g) (nI r)) (12 + 5 * g) (kr_bd R g) 2) (9 + 5 * g) 7 (nI (kr_bd R g + 1))) (kr_bi R g (nI b)) := by
  obtain ⟨hR, hst, hH, hN, hG, hA⟩ := h
  obtain ⟨g1, g2, g3, g4⟩ := hG g hg
  generalize hne : kr_bd R g = n at *
  generalize hD : kb_up (kb_up (kb_up (kb_up (kb_ro (kb_up C (4 + 3 * b) r (nI (2 + g))) (5 + 3 * b) (fun j => if j / 4 = r then 0 else C (5 + 3 * b) j)) (10 + 5 * g) n (nI b)) (11 + 5 * g) n (nI r)) (12 + 5 * g) n 2) (9 + 5 * g) 7 (nI (n + 1)) = D
  generalize hS : kr_bi R g (nI b) = S
  have eC : ∀ k, k ≠ 4 + 3 * b → k ≠ 5 + 3 * b → k ≠ 9 + 5 * g → k ≠ 10 + 5 * g → k ≠ 11 + 5 * g → k ≠ 12 + 5 * g → D k = C k := fun k h1 h2 h3 h4 h5 h6 => by rw [← hD, kb_up_ne _ _ _ h3, kb_up_ne _ _ _ h6, kb_up_ne _ _ _ h5, kb_up_ne _ _ _ h4, kb_ro_ne _ _ h2, kb_up_ne _ _ _ h1]
  have eH : D (4 + 3 * b) = upd (C (4 + 3 * b)) r (nI (2 + g)) := by rw [← hD, kb_up_ne _ _ _ (by omega), kb_up_ne _ _ _ (by omega), kb_up_ne _ _ _ (by omega), kb_up_ne _ _ _ (by omega), kb_ro_ne _ _ (by omega), kb_up_at]
  have eW : D (5 + 3 * b) = fun j => if j / 4 = r then 0 else C (5 + 3 * b) j := by rw [← hD, kb_up_ne _ _ _ (by omega), kb_up_ne _ _ _ (by omega), kb_up_ne _ _ _ (by omega), kb_up_ne _ _ _ (by omega), kb_ro_at]
  have e9 : D (9 + 5 * g) = upd (C (9 + 5 * g)) 7 (nI (n + 1)) := by rw [← hD, kb_up_at, kb_up_ne _ _ _ (by omega), kb_up_ne _ _ _ (by omega), kb_up_ne _ _ _ (by omega), kb_ro_ne _ _ (by omega), kb_up_ne _ _ _ (by omega)]
  have e10 : D (10 + 5 * g) = upd (C (10 + 5 * g)) n (nI b) := by rw [← hD, kb_up_ne _ _ _ (by omega), kb_up_ne _ _ _ (by omega), kb_up_ne _ _ _ (by omega), kb_up_at, kb_ro_ne _ _ (by omega), kb_up_ne _ _ _ (by omega)]
  have e11 : D (11 + 5 * g) = upd (C (11 + 5 * g)) n (nI r) := by rw [← hD, kb_up_ne _ _ _ (by omega), kb_up_ne _ _ _ (by omega), kb_up_at, kb_up_ne _ _ _ (by omega), kb_ro_ne _ _ (by omega), kb_up_ne _ _ _ (by omega)]
  have e12 : D (12 + 5 * g) = upd (C (12 + 5 * g)) n 2 := by rw [← hD, kb_up_ne _ _ _ (by omega), kb_up_at, kb_up_ne _ _ _ (by omega), kb_up_ne _ _ _ (by omega), kb_ro_ne _ _ (by omega), kb_up_ne _ _ _ (by omega)]
  have eR : ∀ k, k ≠ 39 → k ≠ 41 → k ≠ 42 → k ≠ 44 → S k = R k := fun k h1 h2 h3 h4 => by rw [← hS]; unfold kr_bi; rw [kb_up_ne _ _ _ h1, kb_ro_ne _ _ h4, kb_up_ne _ _ _ h3, kb_up_ne _ _ _ h2]
  have s39 : S 39 = upd (R 39) g (nI (n + 1)) := by rw [← hS]; unfold kr_bi; rw [hne, kb_up_at, kb_ro_ne _ _ (by decide), kb_up_ne _ _ _ (by decide), kb_up_ne _ _ _ (by decide)]
  have s41 : S 41 = upd (R 41) (60 * g + n) (nI b) := by rw [← hS]; unfold kr_bi; rw [hne, kb_up_ne _ _ _ (by decide), kb_ro_ne _ _ (by decide), kb_up_ne _ _ _ (by decide), kb_up_at]
  have s42 : S 42 = upd (R 42) (60 * g + n) 2 := by rw [← hS]; unfold kr_bi; rw [hne, kb_up_ne _ _ _ (by decide), kb_ro_ne _ _ (by decide), kb_up_at, kb_up_ne _ _ _ (by decide)]
  have s44 : S 44 = fun q => if q / 4 = 60 * g + n then 0 else R 44 q := by rw [← hS]; unfold kr_bi; rw [hne, kb_up_ne _ _ _ (by decide), kb_ro_at]
  have bdg : kr_bd S g = n + 1 := by unfold kr_bd; rw [s39, pk_us, nI_clamp (by omega)]
  have bdo : ∀ d, d ≠ g → kr_bd S d = kr_bd R d := fun d hd => by unfold kr_bd; rw [s39, pk_un hd]
  have hnb : C (4 + 3 * b) r ≠ nI (2 + g) := by rw [hfree]; exact fun q => nI_m1 (by omega) q.symm
  have keep : ∀ e, e < 4 → ki_keep C D e := by
    intro e he c hc q hq hce
    by_cases hcb : c = b
    · subst hcb
      have hqr : q ≠ r := fun z => by rw [z, hfree] at hce; exact nI_m1 (by omega) hce.symm
      rw [eH, eW, pk_un hqr]
      exact ⟨hce, fun k hk => by show (if _ then _ else _) = _; rw [if_neg (by omega)]⟩
    · rw [eC (4 + 3 * c) (by omega) (by omega) (by omega) (by omega) (by omega) (by omega), eC (5 + 3 * c) (by omega) (by omega) (by omega) (by omega) (by omega) (by omega)]
      exact ⟨hce, fun _ _ => rfl⟩
  have hbb : nI b = 0 ∨ nI b = 1 := by
    match b, hb with
    | 0, _ => exact Or.inl rfl
    | 1, _ => exact Or.inr rfl
  have hR' : kr_ok S := by
    obtain ⟨o1, o2, o3, o4, o5⟩ := hR
    refine ⟨fun d hd => ?_, ?_, ?_, fun j hj => ?_, ?_⟩
    · unfold kr_bd
      rw [s39]
      unfold upd
      by_cases hdg : d = g
      · rw [if_pos hdg, nI_clamp (by omega)]; exact ⟨rfl, by omega⟩
      · rw [if_neg hdg]; exact o1 d hd
    · unfold kr_sz; rw [eR 35 (by decide) (by decide) (by decide) (by decide)]; exact o2
    · unfold kr_fr; rw [eR 38 (by decide) (by decide) (by decide) (by decide)]; exact o3
    · rw [s41]
      unfold upd
      by_cases hjn : j = 60 * g + n
      · rw [if_pos hjn]; exact hbb
      · rw [if_neg hjn]; exact o4 j hj
    · rw [eR 37 (by decide) (by decide) (by decide) (by decide)]; exact o5
  refine ⟨hR', fun j hj => ?_, fun c hc q hq => ?_, fun c hc e he => ?_, fun d hd => ?_, fun a ha => ?_⟩
  · rw [s42]
    unfold upd
    by_cases hjn : j = 60 * g + n
    · rw [if_pos hjn]; exact ⟨2, by omega, rfl⟩
    · rw [if_neg hjn]; exact hst j hj
  · by_cases hcb : c = b
    · subst hcb
      rw [eH]
      unfold upd
      by_cases hqr : q = r
      · rw [if_pos hqr]; exact Or.inr ⟨2 + g, by omega, rfl⟩
      · rw [if_neg hqr]; exact hH c hc q hq
    · rw [eC (4 + 3 * c) (by omega) (by omega) (by omega) (by omega) (by omega) (by omega)]
      exact hH c hc q hq
  · have hold := hN c hc e he
    have hcc : kp_c (D (4 + 3 * c)) (nI e) (12 + 12 * c) = kp_c (C (4 + 3 * c)) (nI e) (12 + 12 * c) + (if c = b ∧ e = 2 + g then 1 else 0) := by
      by_cases hcb : c = b
      · subst hcb
        rw [eH]
        have h1 := kp_c_upd (f := C (4 + 3 * c)) (x := nI (2 + g)) (e := nI e) (12 + 12 * c) hr
        rw [hfree, if_neg (fun q => nI_m1 (by omega) q.symm)] at h1
        by_cases heg : e = 2 + g
        · rw [if_pos (by rw [heg])] at h1
          rw [if_pos ⟨rfl, heg⟩]
          omega
        · rw [if_neg (nI_ne (by omega) (by omega) (fun q => heg q.symm))] at h1
          rw [if_neg (fun q => heg q.2)]
          omega
      · rw [eC (4 + 3 * c) (by omega) (by omega) (by omega) (by omega) (by omega) (by omega), if_neg (fun q => hcb q.1)]
        omega
    rw [hcc, hold]
    rcases kr_env2 he with he2 | ⟨d, hd, rfl⟩
    · rw [kr_c_app (R := R) (S := S) (eR 35 (by decide) (by decide) (by decide) (by decide)) (eR 38 (by decide) (by decide) (by decide) (by decide)) he2, if_neg (by omega)]
      rfl
    · rw [kr_c_g hd, kr_c_g hd]
      by_cases hdg : d = g
      · subst hdg
        rw [bdg, hne]
        have e1 : kr_l S d (nI c) (n + 1) = kr_l S d (nI c) n + (if 2 ≤ S 42 (60 * d + n) ∧ S 41 (60 * d + n) = nI c then 1 else 0) := rfl
        have e2 := kr_l_eq (R := R) (S := S) (g := d) (b := nI c) n (fun u hu => ⟨by rw [s41, pk_un (by omega)], by rw [s42, pk_un (by omega)]⟩)
        rw [e1, e2, s42, s41, pk_us, pk_us]
        by_cases hcb : c = b
        · rw [if_pos ⟨hcb, rfl⟩, if_pos ⟨by decide, by rw [hcb]⟩]
        · rw [if_neg (fun q => hcb q.1), if_neg (fun q => nI_ne (by omega) (by omega) (fun z => hcb z.symm) q.2)]
      · have hdl := (hR.1 d hd).2
        rw [bdo d hdg, if_neg (by omega)]
        have e2 := kr_l_eq (R := R) (S := S) (g := d) (b := nI c) (kr_bd R d) (fun u hu => ⟨by rw [s41, pk_un (by omega)], by rw [s42, pk_un (by omega)]⟩)
        rw [e2]
        rfl
  · by_cases hdg : d = g
    · subst hdg
      unfold ki_G
      rw [bdg, e9, e10, e11, e12, eC (13 + 5 * d) (by omega) (by omega) (by omega) (by omega) (by omega) (by omega), s39, s41, s42, eR 43 (by decide) (by decide) (by decide) (by decide), s44]
      refine ⟨by rw [pk_us, pk_us], fun u hu => ?_, fun u hu hlu c hc hku => ?_, fun u v hu hv hlu hlv hkv he => ?_⟩
      · by_cases hun : u = n
        · subst hun
          rw [pk_us, pk_us, pk_us, pk_us]
          exact ⟨rfl, rfl, fun q => absurd q (by decide)⟩
        · rw [pk_un hun, pk_un (by omega), pk_un hun, pk_un (by omega)]
          exact g2 u (by omega)
      · by_cases hun : u = n
        · subst hun
          rw [pk_us] at hku
          have hcb : b = c := (nI_eq (by omega) (by omega)).mp hku
          subst hcb
          refine ⟨r, hr, pk_us, by rw [eH]; exact pk_us, fun k hk => ?_⟩
          rw [eW]
          show (if _ then _ else _) = (if _ then _ else _)
          rw [if_pos (by omega), if_pos (by omega)]
        · rw [pk_un (by omega)] at hlu hku
          obtain ⟨r', q1, q2, q3, q4⟩ := g3 u (by omega) hlu c hc hku
          obtain ⟨k1, k2⟩ := keep (2 + d) (by omega) c hc r' q1 q3
          refine ⟨r', q1, by rw [pk_un hun]; exact q2, k1, fun k hk => ?_⟩
          rw [k2 k hk, q4 k hk]
          show _ = (if _ then _ else _)
          rw [if_neg (by omega)]
      · by_cases hun : u = n
        · by_cases hvn : v = n
          · omega
          · exfalso
            subst hun
            rw [pk_us, pk_un (by omega)] at hkv
            rw [pk_us, pk_un hvn] at he
            rw [pk_un (by omega)] at hlv
            obtain ⟨r', q1, q2, q3, -⟩ := g3 v (by omega) hlv b hb hkv.symm
            have e : nI r = nI r' := he.trans q2
            rw [nI_eq (by omega) (by omega)] at e
            rw [← e, hfree] at q3
            exact nI_m1 (by omega) q3.symm
        · by_cases hvn : v = n
          · exfalso
            subst hvn
            rw [pk_us, pk_un (by omega)] at hkv
            rw [pk_us, pk_un hun] at he
            rw [pk_un (by omega)] at hlu
            obtain ⟨r', q1, q2, q3, -⟩ := g3 u (by omega) hlu b hb hkv
            have e : nI r = nI r' := he.symm.trans q2
            rw [nI_eq (by omega) (by omega)] at e
            rw [← e, hfree] at q3
            exact nI_m1 (by omega) q3.symm
          · rw [pk_un (by omega)] at hlu hlv
            rw [pk_un (by omega), pk_un (by omega)] at hkv
            rw [pk_un hun, pk_un hvn] at he
            exact g4 u v (by omega) (by omega) hlu hlv hkv he
    · exact ki_G_fr (hG d hd) hR hd (fun k h1 h2 => eC k (by omega) (by omega) (by omega) (by omega) (by omega) (by omega)) ⟨by rw [s39, pk_un hdg], fun u hu => ⟨by rw [s41, pk_un (by omega)], by rw [s42, pk_un (by omega)], by rw [eR 43 (by decide) (by decide) (by decide) (by decide)]⟩, fun u k hu hk => by rw [s44]; show (if _ then _ else _) = _; rw [if_neg (by omega)]⟩ (keep (2 + d) (by omega))
  · exact ki_A_fr (hA a ha) hR ha (fun k h1 h2 => eC k (by omega) (by omega) (by omega) (by omega) (by omega) (by omega)) (fun k h1 h2 => eR k (by omega) (by omega) (by omega) (by omega)) (keep a (by omega))
end
section
/-! words of a ticket; the time moves -/
theorem kj_C {N : Nat} {C D R : kb_M} (h : ki_J N C R) (h1 : ∀ j, j ≠ 1 → j ≠ 9 → j ≠ 14 → j ≠ 19 → j ≠ 26 → D j = C j) (h7 : ∀ j, j = 9 ∨ j = 14 ∨ j = 19 ∨ j = 26 → D j 7 = C j 7) : ki_J N D R := by
  obtain ⟨hR, hst, hH, hN, hG, hA⟩ := h
  refine ⟨hR, hst, fun b hb r hr => ?_, fun b hb e he => ?_, fun g hg => ?_, fun a ha => ?_⟩
  · rw [h1 _ (by omega) (by omega) (by omega) (by omega) (by omega)]
    exact hH b hb r hr
  · rw [h1 _ (by omega) (by omega) (by omega) (by omega) (by omega)]
    exact hN b hb e he
  · have q := hG g hg
    unfold ki_G at q ⊢
    rw [h7 (9 + 5 * g) (by omega), h1 (10 + 5 * g) (by omega) (by omega) (by omega) (by omega) (by omega), h1 (11 + 5 * g) (by omega) (by omega) (by omega) (by omega) (by omega), h1 (12 + 5 * g) (by omega) (by omega) (by omega) (by omega) (by omega), h1 (13 + 5 * g) (by omega) (by omega) (by omega) (by omega) (by omega)]
    refine ⟨q.1, q.2.1, fun t ht hl b hb hk => ?_, q.2.2.2⟩
    rw [h1 (4 + 3 * b) (by omega) (by omega) (by omega) (by omega) (by omega), h1 (5 + 3 * b) (by omega) (by omega) (by omega) (by omega) (by omega)]
    exact q.2.2.1 t ht hl b hb hk
  · obtain ⟨a1, a2, ⟨p1, p2, p3⟩, ⟨L, l1, l2, l3, l4, l5, l6⟩, hw⟩ := hA a ha
    have d1 := h7 (19 + 7 * a) (by omega)
    have d2 := h1 (20 + 7 * a) (by omega) (by omega) (by omega) (by omega) (by omega)
    have d3 := h1 (21 + 7 * a) (by omega) (by omega) (by omega) (by omega) (by omega)
    have d4 := h1 4 (by omega) (by omega) (by omega) (by omega) (by omega)
    have d5 := h1 5 (by omega) (by omega) (by omega) (by omega) (by omega)
    have d7 := h1 7 (by omega) (by omega) (by omega) (by omega) (by omega)
    have d8 := h1 8 (by omega) (by omega) (by omega) (by omega) (by omega)
    have ds : ∀ s, s < 3 → D (23 + 7 * a + s) = C (23 + 7 * a + s) := fun s hs => h1 _ (by omega) (by omega) (by omega) (by omega) (by omega)
    refine ⟨⟨by rw [d2]; exact a1.1, a1.2⟩, by rw [d1]; exact a2, ⟨?_, ?_, ?_⟩, ⟨L, l1, l2, l3, ?_, ?_, ?_⟩, ?_⟩
    · rw [d3, d7]; exact p1
    · rw [d3]; exact p2
    · rw [d3]; exact p3
    · intro s hs hn
      rw [ds s hs]; exact l4 s hs hn
    · intro j s hj
      rw [ds s (l3 s (List.mem_of_getElem? hj)), d1, d4]
      exact l5 j s hj
    · intro j i s z hji hj hi
      rw [ds s (l3 s (List.mem_of_getElem? hj)), ds z (l3 z (List.mem_of_getElem? hi))]
      exact l6 j i s z hji hj hi
    · intro f i r hf hi hr hr24
      rw [d3] at hr
      rw [d5, d8]
      obtain ⟨w1, w2⟩ := hw f i r hf hi hr hr24
      refine ⟨fun s r0 hs => ?_, fun hno => w2 (fun s hs => by rw [← ds s hs]; exact hno s hs)⟩
      rw [ds s hs]
      exact w1 s r0 hs
theorem kj_R {N : Nat} {C R S : kb_M} (h : ki_J N C R) (h1 : ∀ k, 34 ≤ k → k ≤ 44 → k ≠ 40 → S k = R k) : ki_J N C S := by
  obtain ⟨hR, hst, hH, hN, hG, hA⟩ := h
  have e35 := h1 35 (by omega) (by omega) (by omega)
  have e37 := h1 37 (by omega) (by omega) (by omega)
  have e38 := h1 38 (by omega) (by omega) (by omega)
  have e39 := h1 39 (by omega) (by omega) (by omega)
  have e41 := h1 41 (by omega) (by omega) (by omega)
  have e42 := h1 42 (by omega) (by omega) (by omega)
  refine ⟨kr_ok_eq hR e35 e37 e38 e39 e41, by rw [e42]; exact hst, hH, fun b hb e he => ?_, fun g hg => ki_G_fr (hG g hg) hR hg (fun _ _ _ => rfl) ⟨by rw [e39], fun t _ => ⟨by rw [e41], by rw [e42], by rw [h1 43 (by omega) (by omega) (by omega)]⟩, fun t k _ _ => by rw [h1 44 (by omega) (by omega) (by omega)]⟩ (kk_refl C _), fun a ha => ki_A_fr (hA a ha) hR ha (fun _ _ _ => rfl) (fun k g1 g2 => h1 k (by omega) (by omega) (by omega)) (kk_refl C _)⟩
  rw [hN b hb e he]
  rcases kr_env2 he with he2 | ⟨d, hd, rfl⟩
  · rw [kr_c_app (R := R) (S := S) e35 e38 he2]
  · rw [kr_c_g hd, kr_c_g hd]
    have q := kr_l_eq (R := R) (S := S) (g := d) (b := nI b) (kr_bd R d) (fun u hu => ⟨by rw [e41], by rw [e42]⟩)
    unfold kr_bd at q ⊢
    rw [e39, q]
/-- the words of a live ticket change -/
theorem ki_wr {N : Nat} {C R : kb_M} (h : ki_J N C R) {g t b r : Nat} (hg : g < 2) (ht : t < kr_bd R g) (hl : 2 ≤ R 42 (60 * g + t)) (hb : b < 2) (hkd : R 41 (60 * g + t) = nI b) (hr : r < 12 + 12 * b) (hres : C (11 + 5 * g) t = nI r) {f w : Nat → Int32}
    (hf : ∀ j, j / 4 ≠ r → f j = C (5 + 3 * b) j) (hw : ∀ j, j / 4 ≠ 60 * g + t → w j = R 44 j) (hfw : ∀ k, k < 4 → f (4 * r + k) = w (4 * (60 * g + t) + k)) : ki_J N (kb_ro C (5 + 3 * b) f) (kb_ro R 44 w) := by
  obtain ⟨hR, hst, hH, hN, hG, hA⟩ := h
  have hle := (hR.1 g hg).2
  obtain ⟨g1, g2, g3, g4⟩ := hG g hg
  have hown : C (4 + 3 * b) r = nI (2 + g) := by
    obtain ⟨r', q1, q2, q3, -⟩ := g3 t ht hl b hb hkd
    have e : nI r = nI r' := hres.symm.trans q2
    rw [nI_eq (by omega) (by omega)] at e
    rw [e]; exact q3
  have eC : ∀ k, k ≠ 5 + 3 * b → (kb_ro C (5 + 3 * b) f) k = C k := fun k h1 => kb_ro_ne _ _ h1
  have eR : ∀ k, k ≠ 44 → (kb_ro R 44 w) k = R k := fun k h1 => kb_ro_ne _ _ h1
  have keep : ∀ e, e < 4 → e ≠ 2 + g → ki_keep C (kb_ro C (5 + 3 * b) f) e := fun e he hne => kk_words hb (by rw [hown]; exact nI_ne (by omega) (by omega) (fun q => hne q.symm)) hf
  have hR' : kr_ok (kb_ro R 44 w) := kr_ok_eq hR (eR _ (by decide)) (eR _ (by decide)) (eR _ (by decide)) (eR _ (by decide)) (eR _ (by decide))
  have ebd : ∀ q, kr_bd (kb_ro R 44 w) q = kr_bd R q := fun q => by unfold kr_bd; rw [eR 39 (by decide)]
  refine ⟨hR', by rw [eR 42 (by decide)]; exact hst, fun c hc q hq => by rw [eC _ (by omega)]; exact hH c hc q hq, fun c hc e he => ?_, fun d hd => ?_, fun a ha => ?_⟩
  · rw [eC _ (by omega), hN c hc e he]
    rcases kr_env2 he with he2 | ⟨d, hd, rfl⟩
    · rw [kr_c_app (R := R) (S := kb_ro R 44 w) (eR 35 (by decide)) (eR 38 (by decide)) he2]
    · have q := kr_l_eq (R := R) (S := kb_ro R 44 w) (g := d) (b := nI c) (kr_bd R d) (fun u hu => ⟨by rw [eR 41 (by decide)], by rw [eR 42 (by decide)]⟩)
      rw [kr_c_g hd, kr_c_g hd, ebd, q]
  · by_cases hdg : d = g
    · subst hdg
      unfold ki_G
      rw [ebd, eC (9 + 5 * d) (by omega), eC (10 + 5 * d) (by omega), eC (11 + 5 * d) (by omega), eC (12 + 5 * d) (by omega), eC (13 + 5 * d) (by omega), eR 39 (by decide), eR 41 (by decide), eR 42 (by decide), eR 43 (by decide), kb_ro_at]
      refine ⟨g1, g2, fun u hu hlu c hc hku => ?_, g4⟩
      obtain ⟨r', q1, q2, q3, q4⟩ := g3 u hu hlu c hc hku
      refine ⟨r', q1, q2, by rw [eC _ (by omega)]; exact q3, fun k hk => ?_⟩
      by_cases hut : u = t
      · subst hut
        have hcb : c = b := (nI_eq (by omega) (by omega)).mp (hku.symm.trans hkd)
        subst hcb
        have e : nI r = nI r' := hres.symm.trans q2
        rw [nI_eq (by omega) (by omega)] at e
        rw [← e, kb_ro_at]
        exact hfw k hk
      · rw [hw _ (by omega)]
        by_cases hcb : c = b
        · subst hcb
          have hrr : r' ≠ r := fun q => hut (g4 u t hu ht hlu hl (hku.trans hkd.symm) (by rw [q2, hres, q]))
          rw [kb_ro_at, hf _ (by omega)]
          exact q4 k hk
        · rw [eC _ (by omega)]
          exact q4 k hk
    · exact ki_G_fr (hG d hd) hR hd (fun k h1 h2 => eC k (by omega)) ⟨by rw [eR 39 (by decide)], fun u hu => ⟨by rw [eR 41 (by decide)], by rw [eR 42 (by decide)], by rw [eR 43 (by decide)]⟩, fun u k hu hk => by rw [kb_ro_at]; exact hw _ (by omega)⟩ (keep (2 + d) (by omega) (by omega))
  · exact ki_A_fr (hA a ha) hR ha (fun k h1 h2 => eC k (by omega)) (fun k h1 h2 => eR k (by omega)) (keep a (by omega) (by omega))
theorem kr_kd {R : kb_M} (hR : kr_ok R) {j : Nat} (hj : j < 120) : ∃ b, b < 2 ∧ R 41 j = nI b := by
  rcases hR.2.2.2.1 j hj with h | h
  · exact ⟨0, by decide, h⟩
  · exact ⟨1, by decide, h⟩
set_option maxRecDepth 100000 in
set_option maxHeartbeats 2000000 in
/-- a guest loses what is due: in step with the reference -/
theorem cg_lose {N : Nat} {C S : kb_M} {t : Int32} {g : Nat} (hg : g < 2) (h : ki_J N C S) : kb_E (kb_en kz_Guest_loseAllDue [.inr (some (9 + 5 * g)), .inl t] C) (fun q => q.1 = some (.inl (nI (kr_k S t g (kr_bd S g)))) ∧ ki_J N q.2 (kr_mg S t g (kr_bd S g)) ∧ (∀ k, k ≠ 4 → k ≠ 7 → k ≠ 9 + 5 * g → k ≠ 12 + 5 * g → q.2 k = C k) ∧ q.2 (9 + 5 * g) = upd (C (9 + 5 * g)) 0 (C (9 + 5 * g) 0 + nI (kr_k S t g (kr_bd S g)))) := by
  have hR := h.1
  have hle := (hR.1 g hg).2
  have hbd := (hR.1 g hg).1
  have loop : ∀ (k i : Nat) (w v : Int32) (D : kb_M), i + k = kr_bd S g → w = nI (kr_k S t g i) → v = nI i → ki_J N D (kr_mg S t g i) → (∀ k, k ≠ 4 → k ≠ 7 → k ≠ 12 + 5 * g → D k = C k) → kb_E (kz_Guest_loseAllDue, 4, [some (.inr (some (9 + 5 * g))), some (.inl t), some (.inl w), some (.inl v)], [], D) (fun q => q.1 = some (.inl (nI (kr_k S t g (kr_bd S g)))) ∧ ki_J N q.2 (kr_mg S t g (kr_bd S g)) ∧ (∀ k, k ≠ 4 → k ≠ 7 → k ≠ 9 + 5 * g → k ≠ 12 + 5 * g → q.2 k = C k) ∧ q.2 (9 + 5 * g) = upd (C (9 + 5 * g)) 0 (C (9 + 5 * g) 0 + nI (kr_k S t g (kr_bd S g)))) := by
    intro k
    induction k with
    | zero =>
      intro i w v D hi hw hv hJ hD
      have hi : i = kr_bd S g := by omega
      subst hi; subst hw; subst hv
      have hn : D (9 + 5 * g) 7 = nI (kr_bd S g) := by
        rw [((hJ.2.2.2.2.1 g hg).1), kr_mg_ne _ _ _ _ (by decide) (by decide), hbd]
      have fin : ki_J N (kb_up D (9 + 5 * g) 0 (D (9 + 5 * g) 0 + nI (kr_k S t g (kr_bd S g)))) (kr_mg S t g (kr_bd S g)) := kj_C hJ (fun j h1 h2 h3 h4 h5 => kb_up_ne _ _ _ (by omega)) (fun j hj => by
        by_cases hjg : j = 9 + 5 * g
        · rw [hjg, kb_up_at, pk_un (by decide)]
        · rw [kb_up_ne _ _ _ hjg])
      have e1 : (kb_up D (9 + 5 * g) 0 (D (9 + 5 * g) 0 + nI (kr_k S t g (kr_bd S g)))) (9 + 5 * g) = upd (C (9 + 5 * g)) 0 (C (9 + 5 * g) 0 + nI (kr_k S t g (kr_bd S g))) := by
        rw [kb_up_at, hD (9 + 5 * g) (by omega) (by omega) (by omega)]
      have e2 : ∀ k, k ≠ 4 → k ≠ 7 → k ≠ 9 + 5 * g → k ≠ 12 + 5 * g → (kb_up D (9 + 5 * g) 0 (D (9 + 5 * g) 0 + nI (kr_k S t g (kr_bd S g)))) k = C k := fun k h1 h2 h3 h4 => by
        rw [kb_up_ne _ _ _ h3, hD k h1 h2 h4]
      match g, hg with
      | 0, _ =>
        refine kb_go 60 [4] ?_
        refine And.intro (fun _ => ?_) (fun h => ?_)
        · exact And.intro rfl ⟨rfl, fin, e2, e1⟩
        · have h := of_decide_eq_false h
          rw [show D 9 7 = nI (kr_bd S 0) from hn] at h
          exact absurd (Int32.le_refl _) h
      | 1, _ =>
        refine kb_go 60 [4] ?_
        refine And.intro (fun _ => ?_) (fun h => ?_)
        · exact And.intro rfl ⟨rfl, fin, e2, e1⟩
        · have h := of_decide_eq_false h
          rw [show D 14 7 = nI (kr_bd S 1) from hn] at h
          exact absurd (Int32.le_refl _) h
    | succ k ih =>
      intro i w v D hi hw hv hJ hD
      subst hw; subst hv
      have hin : kb_in (nI i) 60 = true := kb_in_nI (by omega) (by omega)
      have hcl : (nI i).toNatClampNeg = i := nI_clamp (by omega)
      have hG := hJ.2.2.2.2.1 g hg
      have ebd : kr_bd (kr_mg S t g i) g = kr_bd S g := by unfold kr_bd; rw [kr_mg_ne _ _ _ _ (by decide) (by decide)]
      have hn : D (9 + 5 * g) 7 = nI (kr_bd S g) := by
        rw [hG.1, kr_mg_ne _ _ _ _ (by decide) (by decide), hbd]
      obtain ⟨t1, t2, t3⟩ := hG.2.1 i (by rw [ebd]; omega)
      have e42 : kr_mg S t g i 42 (60 * g + i) = S 42 (60 * g + i) := by rw [kr_mg_42, if_neg (by omega)]
      have e43 : kr_mg S t g i 43 = S 43 := kr_mg_ne _ _ _ _ (by decide) (by decide)
      have e41 : kr_mg S t g i 41 = S 41 := kr_mg_ne _ _ _ _ (by decide) (by decide)
      rw [e42] at t2 t3
      rw [e43] at t3
      rw [e41] at t1
      -- not due: nothing happens
      have no : ¬ (S 42 (60 * g + i) = 3 ∧ S 43 (60 * g + i) ≤ t) → ∀ v, v = nI (i + 1) → kb_E (kz_Guest_loseAllDue, 4, [some (.inr (some (9 + 5 * g))), some (.inl t), some (.inl (nI (kr_k S t g i))), some (.inl v)], [], D) (fun q => q.1 = some (.inl (nI (kr_k S t g (kr_bd S g)))) ∧ ki_J N q.2 (kr_mg S t g (kr_bd S g)) ∧ (∀ k, k ≠ 4 → k ≠ 7 → k ≠ 9 + 5 * g → k ≠ 12 + 5 * g → q.2 k = C k) ∧ q.2 (9 + 5 * g) = upd (C (9 + 5 * g)) 0 (C (9 + 5 * g) 0 + nI (kr_k S t g (kr_bd S g)))) := by
        intro hno v hv
        refine ih (i + 1) _ _ D (by omega) ?_ hv (by rw [kr_mg_no hno]; exact hJ) hD
        rw [show kr_k S t g (i + 1) = kr_k S t g i from by show _ + _ = _; rw [if_neg hno]; rfl]
      -- due
      have yes : S 42 (60 * g + i) = 3 ∧ S 43 (60 * g + i) ≤ t → ∃ b r, b < 2 ∧ r < 12 + 12 * b ∧ D (10 + 5 * g) i = nI b ∧ D (11 + 5 * g) i = nI r ∧ ∀ v, v = nI (i + 1) → kb_E (kz_Guest_loseAllDue, 4, [some (.inr (some (9 + 5 * g))), some (.inl t), some (.inl (nI (kr_k S t g i) + 1)), some (.inl v)], [], kb_up (kb_up D (12 + 5 * g) i 1) (4 + 3 * b) r (-1)) (fun q => q.1 = some (.inl (nI (kr_k S t g (kr_bd S g)))) ∧ ki_J N q.2 (kr_mg S t g (kr_bd S g)) ∧ (∀ k, k ≠ 4 → k ≠ 7 → k ≠ 9 + 5 * g → k ≠ 12 + 5 * g → q.2 k = C k) ∧ q.2 (9 + 5 * g) = upd (C (9 + 5 * g)) 0 (C (9 + 5 * g) 0 + nI (kr_k S t g (kr_bd S g)))) := by
        intro hy
        obtain ⟨b, hb, hkb⟩ := kr_kd hR (j := 60 * g + i) (by omega)
        have hlv : 2 ≤ kr_mg S t g i 42 (60 * g + i) := by rw [e42, hy.1]; decide
        obtain ⟨r, r1, r2, r3, -⟩ := hG.2.2.1 i (by rw [ebd]; omega) hlv b hb (by rw [e41]; exact hkb)
        refine ⟨b, r, hb, r1, by rw [t1]; exact hkb, r2, fun v hv => ?_⟩
        have hE := ki_end hJ (s := 1) hg (by rw [ebd]; omega) hlv hb (by rw [e41]; exact hkb) r1 r2 (by decide)
        refine ih (i + 1) _ _ _ (by omega) ?_ hv ?_ (fun k h1 h2 h3 => ?_)
        · rw [show kr_k S t g (i + 1) = kr_k S t g i + 1 from by show _ + _ = _; rw [if_pos hy], nI_succ]
        · rw [kr_mg_yes hy]
          exact kj_R hE (fun k h1 h2 h3 => kb_up_ne _ _ _ h3)
        · rw [kb_up_ne _ _ _ (by omega), kb_up_ne _ _ _ h3, hD k h1 h2 h3]
      have pool : ∀ b r, b < 2 → r < 12 + 12 * b → D (10 + 5 * g) i = nI b → kb_E (kb_en kz_Guest_poolOf [.inr (some (9 + 5 * g)), .inl (nI i)] (kb_up D (12 + 5 * g) i 1)) (fun q => q = (some (.inr (some (3 + 3 * b))), kb_up D (12 + 5 * g) i 1)) ∧ kb_E (kb_en kz_Pool_endBinding [.inr (some (3 + 3 * b)), .inl (nI r)] (kb_up D (12 + 5 * g) i 1)) (fun q => q = (none, kb_up (kb_up D (12 + 5 * g) i 1) (3 + 3 * b + 1) r (-1))) := by
        intro b r hb hr hk
        refine ⟨cg_poolOf (by match g, hg with | 0, _ => exact Or.inl rfl | 1, _ => exact Or.inr rfl) _ (by omega) hb (by rw [kb_up_ne _ _ _ (by omega), show 9 + 5 * g + 1 = 10 + 5 * g by omega]; exact hk), cp_endBinding (kp_b hb) _ hr⟩
      match g, hg with
      | 0, _ =>
        refine kb_go 60 [4] ?_
        refine And.intro (fun h => ?_) (fun _ => ?_)
        · have h := of_decide_eq_true h
          rw [show D 9 7 = nI (kr_bd S 0) from hn, nI_leI (by omega) (by omega)] at h
          omega
        · refine And.intro hin ?_
          refine And.intro (fun h => ?_) (fun h => ?_)
          · have h : ¬ D 12 (nI i).toNatClampNeg = 3 := of_decide_eq_true h
            rw [hcl] at h
            exact no (fun q => h (t2.trans q.1)) _ (nI_succ i).symm
          · have h : D 12 (nI i).toNatClampNeg = 3 := Classical.not_not.mp (of_decide_eq_false h)
            rw [hcl] at h
            have h3 := t2.symm.trans h
            refine And.intro hin ?_
            refine And.intro (fun h2 => ?_) (fun h2 => ?_)
            · have h2 : t < D 13 (nI i).toNatClampNeg := of_decide_eq_true h2
              rw [hcl] at h2
              exact no (fun q => absurd q.2 (Int32.not_le.mpr (by rw [← t3 h3]; exact h2))) _ (nI_succ i).symm
            · have h2 : ¬ t < D 13 (nI i).toNatClampNeg := of_decide_eq_false h2
              rw [hcl] at h2
              obtain ⟨b, r, hb, hr, hk, hres, K⟩ := yes ⟨h3, by rw [← t3 h3]; exact Int32.not_lt.mp h2⟩
              obtain ⟨p1, p2⟩ := pool b r hb hr hk
              refine And.intro hin ?_
              rw [hcl]
              refine kb_E_to p1 ?_
              have e11 : (kb_up D (12 + 5 * 0) i 1) 11 i = nI r := by rw [kb_up_ne _ _ _ (by decide)]; exact hres
              match b, hb with
              | 0, _ =>
                refine And.intro hin ?_
                rw [hcl, e11]
                refine kb_E_to p2 ?_
                exact K _ (nI_succ i).symm
              | 1, _ =>
                refine And.intro hin ?_
                rw [hcl, e11]
                refine kb_E_to p2 ?_
                exact K _ (nI_succ i).symm
      | 1, _ =>
        refine kb_go 60 [4] ?_
        refine And.intro (fun h => ?_) (fun _ => ?_)
        · have h := of_decide_eq_true h
          rw [show D 14 7 = nI (kr_bd S 1) from hn, nI_leI (by omega) (by omega)] at h
          omega
        · refine And.intro hin ?_
          refine And.intro (fun h => ?_) (fun h => ?_)
          · have h : ¬ D 17 (nI i).toNatClampNeg = 3 := of_decide_eq_true h
            rw [hcl] at h
            exact no (fun q => h (t2.trans q.1)) _ (nI_succ i).symm
          · have h : D 17 (nI i).toNatClampNeg = 3 := Classical.not_not.mp (of_decide_eq_false h)
            rw [hcl] at h
            have h3 := t2.symm.trans h
            refine And.intro hin ?_
            refine And.intro (fun h2 => ?_) (fun h2 => ?_)
            · have h2 : t < D 18 (nI i).toNatClampNeg := of_decide_eq_true h2
              rw [hcl] at h2
              exact no (fun q => absurd q.2 (Int32.not_le.mpr (by rw [← t3 h3]; exact h2))) _ (nI_succ i).symm
            · have h2 : ¬ t < D 18 (nI i).toNatClampNeg := of_decide_eq_false h2
              rw [hcl] at h2
              obtain ⟨b, r, hb, hr, hk, hres, K⟩ := yes ⟨h3, by rw [← t3 h3]; exact Int32.not_lt.mp h2⟩
              obtain ⟨p1, p2⟩ := pool b r hb hr hk
              refine And.intro hin ?_
              rw [hcl]
              refine kb_E_to p1 ?_
              have e11 : (kb_up D (12 + 5 * 1) i 1) 16 i = nI r := by rw [kb_up_ne _ _ _ (by decide)]; exact hres
              match b, hb with
              | 0, _ =>
                refine And.intro hin ?_
                rw [hcl, e11]
                refine kb_E_to p2 ?_
                exact K _ (nI_succ i).symm
              | 1, _ =>
                refine And.intro hin ?_
                rw [hcl, e11]
                refine kb_E_to p2 ?_
                exact K _ (nI_succ i).symm
  have h0 := loop (kr_bd S g) 0 0 0 C (by omega) rfl rfl (by rw [kr_mg_0]; exact h) (fun _ _ _ _ => rfl)
  match g, hg with
  | 0, _ => exact kb_go 20 [4] h0
  | 1, _ => exact kb_go 20 [4] h0
end
section
/-! the kernel: time, deadlines, wishes, claims -/
set_option maxRecDepth 100000 in
theorem ck_poolOf (C : kb_M) {b : Nat} (hb : b < 2) : kb_E (kb_en kz_Kernel_poolOf [.inr (some 1), .inl (nI b)] C) (fun q => q = (some (.inr (some (3 + 3 * b))), C)) := by
  refine kb_go 20 [] ?_
  match b, hb with
  | 0, _ => exact And.intro (fun _ => And.intro rfl rfl) (fun h => absurd h (by decide))
  | 1, _ => exact And.intro (fun h => absurd h (by decide)) (fun _ => And.intro rfl rfl)
set_option maxRecDepth 100000 in
theorem ck_guestOf (C : kb_M) {g : Nat} (hg : g < 2) : kb_E (kb_en kz_Kernel_guestOf [.inr (some 1), .inl (nI (2 + g))] C) (fun q => q = (some (.inr (some (9 + 5 * g))), C)) := by
  refine kb_go 20 [] ?_
  match g, hg with
  | 0, _ => exact And.intro (fun h => absurd h (by decide)) (fun _ => And.intro rfl rfl)
  | 1, _ =>
    refine And.intro (fun _ => ?_) (fun h => absurd h (by decide))
    exact And.intro (fun h => absurd h (by decide)) (fun _ => And.intro rfl rfl)
set_option maxRecDepth 100000 in
theorem ck_guestOf_no (C : kb_M) {v : Int32} (h0 : ¬ (2 ≤ v ∧ v ≤ 3)) : kb_E (kb_en kz_Kernel_guestOf [.inr (some 1), .inl v] C) (fun q => q = (some (.inr none), C)) := by
  refine kb_go 20 [] ?_
  refine And.intro (fun _ => ?_) (fun h => ?_)
  · refine And.intro (fun _ => And.intro rfl rfl) (fun h => ?_)
    have h : v = 3 := Classical.not_not.mp (of_decide_eq_false h)
    exact absurd (by rw [h]; exact ⟨by decide, by decide⟩) h0
  · have h : v = 2 := Classical.not_not.mp (of_decide_eq_false h)
    exact absurd (by rw [h]; exact ⟨by decide, by decide⟩) h0
set_option maxRecDepth 100000 in
theorem ck_moveTimeTo {N : Nat} {C R : kb_M} (h : ki_J N C R) (t : Int32) : kb_E (kb_en kz_Kernel_moveTimeTo [.inr (some 1), .inl t] C) (fun q => q.1 = some (.inl (nI (kr_k R t 0 (kr_bd R 0) + kr_k R t 1 (kr_bd R 1)))) ∧ ki_J N q.2 (kr_mv R t) ∧ (∀ k, k ≠ 1 → k ≠ 4 → k ≠ 7 → k ≠ 9 → k ≠ 14 → k ≠ 12 → k ≠ 17 → q.2 k = C k) ∧ q.2 1 = upd (C 1) 0 t ∧ q.2 9 = upd (C 9) 0 (C 9 0 + nI (kr_k R t 0 (kr_bd R 0))) ∧ q.2 14 = upd (C 14) 0 (C 14 0 + nI (kr_k R t 1 (kr_bd R 1)))) := by
  have e0 : kr_k (kb_up R 33 0 t) t 0 (kr_bd R 0) = kr_k R t 0 (kr_bd R 0) := kr_k_eq _ (fun j _ _ => ⟨by rw [kb_up_ne _ _ _ (by decide)], by rw [kb_up_ne _ _ _ (by decide)]⟩)
  have e1 : kr_k (kr_m0 R t) t 1 (kr_bd R 1) = kr_k R t 1 (kr_bd R 1) := kr_k_eq _ (fun j h1 _ => ⟨by unfold kr_m0; rw [kr_mg_42, if_neg (by have := (h.1.1 0 (by decide)).2; omega), kb_up_ne _ _ _ (by decide)], by unfold kr_m0; rw [kr_mg_ne _ _ _ _ (by decide) (by decide), kb_up_ne _ _ _ (by decide)]⟩)
  have b0 : kr_bd (kb_up R 33 0 t) 0 = kr_bd R 0 := by unfold kr_bd; rw [kb_up_ne _ _ _ (by decide)]
  have b1 : kr_bd (kr_m0 R t) 1 = kr_bd R 1 := by unfold kr_bd kr_m0; rw [kr_mg_ne _ _ _ _ (by decide) (by decide), kb_up_ne _ _ _ (by decide)]
  have J1 : ki_J N (kb_up C 1 0 t) (kb_up R 33 0 t) := kj_R (kj_C h (fun j h1 _ _ _ _ => kb_up_ne _ _ _ h1) (fun j hj => by rw [kb_up_ne _ _ _ (by omega)])) (fun k h1 _ _ => kb_up_ne _ _ _ (by omega))
  have L0 := cg_lose (t := t) (g := 0) (by decide) J1
  rw [b0, e0] at L0
  refine kb_go 20 [] ?_
  have t0 : (kb_up C 1 0 t) 1 0 = t := by rw [kb_up_at]; exact pk_us
  show kb_E (kb_en kz_Guest_loseAllDue [.inr (some 9), .inl ((kb_up C 1 0 t) 1 0)] (kb_up C 1 0 t)) _
  rw [t0]
  refine kb_E_then L0 (fun v M hq => ?_)
  obtain ⟨q1, q2, q3, q4⟩ := hq
  dsimp only at q1 q2 q3 q4
  subst q1
  have L1 := cg_lose (t := t) (g := 1) (by decide) q2
  have em : kr_mg (kb_up R 33 0 t) t 0 (kr_bd R 0) = kr_m0 R t := rfl
  rw [em, b1, e1] at L1
  have t1 : M 1 0 = t := by rw [q3 1 (by decide) (by decide) (by decide) (by decide)]; exact t0
  show kb_E (kb_en kz_Guest_loseAllDue [.inr (some 14), .inl (M 1 0)] M) _
  rw [t1]
  refine kb_E_then L1 (fun v2 M2 hq2 => ?_)
  obtain ⟨p1, p2, p3, p4⟩ := hq2
  dsimp only at p1 p2 p3 p4
  subst p1
  refine And.intro rfl ⟨by rw [← nI_add], p2, fun k h1 h2 h3 h4 h5 h6 h7 => ?_, ?_, ?_, ?_⟩
  · show M2 k = C k
    rw [p3 k h2 h3 h5 h7, q3 k h2 h3 h4 h6, kb_up_ne _ _ _ h1]
  · show M2 1 = _
    rw [p3 1 (by decide) (by decide) (by decide) (by decide), q3 1 (by decide) (by decide) (by decide) (by decide), kb_up_at]
  · show M2 9 = _
    rw [p3 9 (by decide) (by decide) (by decide) (by decide)]
    have q4 : M 9 = upd ((kb_up C 1 0 t) 9) 0 ((kb_up C 1 0 t) 9 0 + nI (kr_k R t 0 (kr_bd R 0))) := q4
    rw [q4, kb_up_ne _ _ _ (by decide)]
  · show M2 14 = _
    have p4 : M2 14 = upd (M 14) 0 (M 14 0 + nI (kr_k R t 1 (kr_bd R 1))) := p4
    have e : M 14 = C 14 := by rw [q3 14 (by decide) (by decide) (by decide) (by decide), kb_up_ne _ _ _ (by decide)]
    rw [p4, e]
/-- the earliest deadline: k on this side (2147483647: none), y on the other (-1: none) -/
def kx_ea (k : Nat) (y : Int32) : Prop := (k = 2147483647 ∧ y = -1) ∨ (k < 2 ^ 30 ∧ y = nI k)
theorem kx_min {a c : Nat} (ha : a < 2 ^ 31) (hc : c < 2 ^ 31) : (if nI c < nI a then nI c else nI a) = nI (min a c) := by
  by_cases h : c < a
  · rw [if_pos (nI_lt h (by omega)), Nat.min_eq_right (by omega)]
  · rw [if_neg (nI_nlt (by omega) (by omega)), Nat.min_eq_left (by omega)]
theorem kx_step {C R : kb_M} {g : Nat} (hG : ki_G C R g) {b a : Nat} {y0 : Int32} (ha : a = 2147483647 ∨ a < 2 ^ 30) (h0 : kx_ea a y0) (hd : ∀ t, t < kr_bd R g → R 42 (60 * g + t) = 3 → ∃ d, d < 2 ^ 30 ∧ R 43 (60 * g + t) = nI d) : ∀ n, n ≤ kr_bd R g → ∃ c, (c = 2147483647 ∨ c < 2 ^ 30) ∧ kg_e C (9 + 5 * g) (nI b) n = nI c ∧ kx_ea (min a c) (kr_e1 R g (nI b) y0 n) := by
  intro n
  induction n with
  | zero =>
    intro _
    refine ⟨2147483647, Or.inl rfl, rfl, ?_⟩
    rw [Nat.min_eq_left (by omega)]
    exact h0
  | succ n ih =>
    intro hn
    obtain ⟨c, c1, c2, c3⟩ := ih (by omega)
    obtain ⟨t1, t2, t3⟩ := hG.2.1 n (by omega)
    have s1 : kg_e C (9 + 5 * g) (nI b) (n + 1) = if C (12 + 5 * g) n = 3 ∧ C (10 + 5 * g) n = nI b ∧ C (13 + 5 * g) n < kg_e C (9 + 5 * g) (nI b) n then C (13 + 5 * g) n else kg_e C (9 + 5 * g) (nI b) n := by
      show (if C (9 + 5 * g + 3) n = 3 ∧ C (9 + 5 * g + 1) n = nI b ∧ C (9 + 5 * g + 4) n < kg_e C (9 + 5 * g) (nI b) n then C (9 + 5 * g + 4) n else kg_e C (9 + 5 * g) (nI b) n) = _
      rw [show 9 + 5 * g + 3 = 12 + 5 * g by omega, show 9 + 5 * g + 1 = 10 + 5 * g by omega, show 9 + 5 * g + 4 = 13 + 5 * g by omega]
    have s2 : kr_e1 R g (nI b) y0 (n + 1) = if R 42 (60 * g + n) = 3 ∧ R 41 (60 * g + n) = nI b ∧ (kr_e1 R g (nI b) y0 n < 0 ∨ R 43 (60 * g + n) < kr_e1 R g (nI b) y0 n) then R 43 (60 * g + n) else kr_e1 R g (nI b) y0 n := rfl
    by_cases h3 : R 42 (60 * g + n) = 3 ∧ R 41 (60 * g + n) = nI b
    · obtain ⟨d, d1, d2⟩ := hd n (by omega) h3.1
      have d3 := t3 h3.1
      rw [d2] at d3
      refine ⟨min c d, by omega, ?_, ?_⟩
      · rw [s1, t1, t2, h3.1, h3.2, d3, c2]
        by_cases hdc : d < c
        · rw [if_pos ⟨rfl, rfl, nI_lt hdc (by omega)⟩, Nat.min_eq_right (by omega)]
        · rw [if_neg (fun q => nI_nlt (by omega) (by omega) q.2.2), Nat.min_eq_left (by omega)]
      · rw [s2, d2]
        rcases c3 with ⟨m1, m2⟩ | ⟨m1, m2⟩
        · rw [if_pos ⟨h3.1, h3.2, Or.inl (by rw [m2]; decide)⟩]
          exact Or.inr ⟨by omega, by congr 1; omega⟩
        · rw [m2]
          by_cases hdm : d < min a c
          · rw [if_pos ⟨h3.1, h3.2, Or.inr (nI_lt hdm (by omega))⟩]
            exact Or.inr ⟨by omega, by congr 1; omega⟩
          · rw [if_neg (fun q => by
              rcases q.2.2 with q | q
              · exact nI_pos (by omega) q
              · exact nI_nlt (by omega) (by omega) q)]
            exact Or.inr ⟨by omega, by congr 1; omega⟩
    · refine ⟨c, c1, ?_, ?_⟩
      · rw [s1, t1, t2, if_neg (fun q => h3 ⟨q.1, q.2.1⟩)]
        exact c2
      · rw [s2, if_neg (fun q => h3 ⟨q.1, q.2.1⟩)]
        exact c3
/-- all deadlines are below 2 ^ 30 -/
def kr_dl (R : kb_M) : Prop := ∀ g t, g < 2 → t < kr_bd R g → R 42 (60 * g + t) = 3 → ∃ d, d < 2 ^ 30 ∧ R 43 (60 * g + t) = nI d
set_option maxRecDepth 100000 in
theorem ck_earliest {N : Nat} {C R : kb_M} (h : ki_J N C R) (hd : kr_dl R) {b : Nat} : kb_E (kb_en kz_Kernel_earliestDeadline [.inr (some 1), .inl (nI b)] C) (fun q => ∃ k, kx_ea k (kr_e R (nI b)) ∧ q = (some (.inl (nI k)), C)) := by
  have hR := h.1
  have G0 := h.2.2.2.2.1 0 (by decide)
  have G1 := h.2.2.2.2.1 1 (by decide)
  obtain ⟨c0, a1, a2, a3⟩ := kx_step G0 (b := b) (a := 2147483647) (y0 := -1) (Or.inl rfl) (Or.inl ⟨rfl, rfl⟩) (fun t ht h3 => hd 0 t (by decide) ht h3) (kr_bd R 0) (Nat.le_refl _)
  rw [Nat.min_eq_right (by omega)] at a3
  obtain ⟨c1, b1, b2, b3⟩ := kx_step G1 (b := b) a1 a3 (fun t ht h3 => hd 1 t (by decide) ht h3) (kr_bd R 1) (Nat.le_refl _)
  have E0 := cg_earliest (c := 9) (n := kr_bd R 0) (Or.inl rfl) (C := C) (G0.1.trans (hR.1 0 (by decide)).1) (hR.1 0 (by decide)).2 (nI b)
  have E1 := cg_earliest (c := 14) (n := kr_bd R 1) (Or.inr rfl) (C := C) (G1.1.trans (hR.1 1 (by decide)).1) (hR.1 1 (by decide)).2 (nI b)
  have a2 : kg_e C 9 (nI b) (kr_bd R 0) = nI c0 := a2
  have b2 : kg_e C 14 (nI b) (kr_bd R 1) = nI c1 := b2
  rw [a2] at E0
  rw [b2] at E1
  refine kb_go 20 [] ?_
  refine kb_E_to E0 ?_
  refine kb_E_to E1 ?_
  refine And.intro rfl ⟨min c0 c1, b3, ?_⟩
  rw [kx_min (by omega) (by omega)]
theorem kg_la_eq {C R : kb_M} {g : Nat} (hG : ki_G C R g) (b : Int32) : ∀ n, n ≤ kr_bd R g → kg_la C (9 + 5 * g) b n = kr_la R g b n := by
  intro n
  induction n with
  | zero => intro _; rfl
  | succ n ih =>
    intro hn
    obtain ⟨t1, t2, -⟩ := hG.2.1 n (by omega)
    unfold kg_la kr_la
    rw [show 9 + 5 * g + 3 = 12 + 5 * g by omega, show 9 + 5 * g + 1 = 10 + 5 * g by omega, t1, t2, ih (by omega)]
/-- what stays over a wish -/
def kx_wi (C D : kb_M) : Prop := ∀ k, k ≠ 12 → k ≠ 13 → k ≠ 17 → k ≠ 18 → D k = C k
set_option maxRecDepth 100000 in
theorem ck_askRicher {N : Nat} {C R : kb_M} (h : ki_J N C R) (hnow : C 1 0 = R 33 0) {b : Nat} (hb : b < 2) (hno : kr_e R (nI b) < 0) : kb_E (kb_en kz_Kernel_askRicherGuest [.inr (some 1), .inl (nI b)] C) (fun q => q.1 = none ∧ ki_J N q.2 (kr_wi R (nI b)) ∧ kx_wi C q.2) := by
  have hR := h.1
  have hN := h.2.2.2.1 b hb
  have n0 := hN 2 (by decide)
  have n1 := hN 3 (by decide)
  rw [show (2 : Nat) = 2 + 0 from rfl, kr_c_g (g := 0) (by decide)] at n0
  rw [show (3 : Nat) = 2 + 1 from rfl, kr_c_g (g := 1) (by decide)] at n1
  have l0 := kr_l_le R 0 (nI b) (kr_bd R 0)
  have l1 := kr_l_le R 1 (nI b) (kr_bd R 1)
  have hb0 := (hR.1 0 (by decide))
  have hb1 := (hR.1 1 (by decide))
  have c0 := cp_countHeldBy (kp_b hb) C (nI (2 + 0))
  have c1 := cp_countHeldBy (kp_b hb) C (nI (2 + 1))
  rw [show 3 + 3 * b + 1 = 4 + 3 * b by omega, n0] at c0
  rw [show 3 + 3 * b + 1 = 4 + 3 * b by omega, n1] at c1
  -- the ask itself
  have ask : ∀ g, g < 2 → g = kr_ri R (nI b) → ∀ x, kb_E (kb_en kz_Guest_askForLastOf [.inr (some (9 + 5 * g)), .inl (nI b), .inl x] C) (fun q => x = R 33 0 + 5 → q.1 = none ∧ ki_J N q.2 (kr_wi R (nI b)) ∧ kx_wi C q.2) := by
    intro g hg hri x
    have G := h.2.2.2.2.1 g hg
    have hbd := hR.1 g hg
    have A := cg_askForLast (c := 9 + 5 * g) (n := kr_bd R g) (by match g, hg with | 0, _ => exact Or.inl rfl | 1, _ => exact Or.inr rfl) (C := C) (G.1.trans hbd.1) hbd.2 (nI b) x
    refine kb_E_imp A (fun q hq hx => ?_)
    rw [hq, kg_la_eq G (nI b) _ (Nat.le_refl _)]
    have hw : kr_wi R (nI b) = match kr_la R g (nI b) (kr_bd R g) with
      | none => R
      | some t => kr_mk R (60 * g + t) := by unfold kr_wi; rw [if_pos hno, ← hri]; cases kr_la R g (nI b) (kr_bd R g) <;> rfl
    rw [hw]
    cases hl : kr_la R g (nI b) (kr_bd R g) with
    | none => exact ⟨rfl, h, fun k _ _ _ _ => rfl⟩
    | some t =>
      obtain ⟨t1, t2, t3⟩ := kr_la_lt hl
      refine ⟨rfl, ?_, fun k h1 h2 h3 h4 => ?_⟩
      · show ki_J N (kb_up (kb_up C (9 + 5 * g + 3) t 3) (9 + 5 * g + 4) t x) (kr_mk R (60 * g + t))
        rw [show 9 + 5 * g + 3 = 12 + 5 * g by omega, show 9 + 5 * g + 4 = 13 + 5 * g by omega, hx]
        exact ki_ask h hg t1 t2 (R 33 0 + 5)
      · show (kb_up (kb_up C (9 + 5 * g + 3) t 3) (9 + 5 * g + 4) t x) k = C k
        rw [kb_up_ne _ _ _ (by omega), kb_up_ne _ _ _ (by omega)]
  refine kb_go 40 [6] ?_
  refine kb_E_to (ck_poolOf C hb) ?_
  have both : ∀ c, c = 3 + 3 * b → kb_E (kz_Kernel_askRicherGuest, 6, [some (.inr (some 1)), some (.inl (nI b)), some (.inr (some c)), none, none, none], [], C) (fun q => q.1 = none ∧ ki_J N q.2 (kr_wi R (nI b)) ∧ kx_wi C q.2) := by
    intro c hc
    have fin0 := ask 0 (by decide)
    have fin1 := ask 1 (by decide)
    have hx : C 1 0 + Int32.ofInt 5 = R 33 0 + 5 := by rw [hnow]; rfl
    match b, hb with
    | 0, _ =>
      subst hc
      refine kb_go 40 [] ?_
      refine kb_E_to c0 ?_
      refine kb_E_to c1 ?_
      refine And.intro (fun h2 => ?_) (fun h2 => ?_)
      · have h2 := of_decide_eq_true h2
        rw [nI_ltI (by omega) (by omega)] at h2
        refine kb_E_imp (fin1 (by unfold kr_ri; rw [if_pos (by omega)]) _) (fun q hq => ?_)
        obtain ⟨q1, q2, q3⟩ := hq hx
        obtain ⟨v, M⟩ := q
        dsimp only at q1
        subst q1
        exact And.intro rfl ⟨rfl, q2, q3⟩
      · have h2 := of_decide_eq_false h2
        rw [nI_ltI (by omega) (by omega)] at h2
        refine kb_E_imp (fin0 (by unfold kr_ri; rw [if_neg (by omega)]) _) (fun q hq => ?_)
        obtain ⟨q1, q2, q3⟩ := hq hx
        obtain ⟨v, M⟩ := q
        dsimp only at q1
        subst q1
        exact And.intro rfl ⟨rfl, q2, q3⟩
    | 1, _ =>
      subst hc
      refine kb_go 40 [] ?_
      refine kb_E_to c0 ?_
      refine kb_E_to c1 ?_
      refine And.intro (fun h2 => ?_) (fun h2 => ?_)
      · have h2 := of_decide_eq_true h2
        rw [nI_ltI (by omega) (by omega)] at h2
        refine kb_E_imp (fin1 (by unfold kr_ri; rw [if_pos (by omega)]) _) (fun q hq => ?_)
        obtain ⟨q1, q2, q3⟩ := hq hx
        obtain ⟨v, M⟩ := q
        dsimp only at q1
        subst q1
        exact And.intro rfl ⟨rfl, q2, q3⟩
      · have h2 := of_decide_eq_false h2
        rw [nI_ltI (by omega) (by omega)] at h2
        refine kb_E_imp (fin0 (by unfold kr_ri; rw [if_neg (by omega)]) _) (fun q hq => ?_)
        obtain ⟨q1, q2, q3⟩ := hq hx
        obtain ⟨v, M⟩ := q
        dsimp only at q1
        subst q1
        exact And.intro rfl ⟨rfl, q2, q3⟩
  exact both _ rfl
/-- nothing free, on either side -/
theorem kx_free {N : Nat} {C R : kb_M} (h : ki_J N C R) {b : Nat} (hb : b < 2) : kr_f R b = nI (kp_c (C (4 + 3 * b)) (-1) (12 + 12 * b)) := by
  have hN := h.2.2.2.1 b hb
  have hs := kp_c_sum (12 + 12 * b) (h.2.2.1 b hb)
  have n0 := hN 0 (by decide)
  have n1 := hN 1 (by decide)
  have n2 := hN 2 (by decide)
  have n3 := hN 3 (by decide)
  unfold kr_f
  rw [← n0, ← n1, ← n2, ← n3, pk_sub (by omega), pk_sub (by omega), pk_sub (by omega), pk_sub (by omega)]
  congr 1
  omega
theorem kp_c_0 {f : Nat → Int32} {e : Int32} : ∀ n, (∀ r, r < n → f r ≠ e) → kp_c f e n = 0 := by
  intro n
  induction n with
  | zero => intro _; rfl
  | succ n ih =>
    intro h
    unfold kp_c
    rw [ih (fun r hr => h r (by omega)), if_neg (h n (by omega))]
theorem kx_none {N : Nat} {C R : kb_M} (h : ki_J N C R) {b : Nat} (hb : b < 2) (hn : ∀ r, r < 12 + 12 * b → C (4 + 3 * b) r ≠ -1) : kr_f R b = 0 := by
  rw [kx_free h hb, kp_c_0 _ hn]
  rfl
theorem kx_some {N : Nat} {C R : kb_M} (h : ki_J N C R) {b r : Nat} (hb : b < 2) (hr : r < 12 + 12 * b) (hc : C (4 + 3 * b) r = -1) : kr_f R b ≠ 0 := by
  have h1 := kp_c_pos (f := C (4 + 3 * b)) (e := -1) (12 + 12 * b) hr hc
  have h2 := kp_c_le (C (4 + 3 * b)) (-1) (12 + 12 * b)
  rw [kx_free h hb]
  exact nI_ne0 h1 (by omega)
/-- a resource comes to e -/
def kx_bn (C : kb_M) (b r : Nat) (e : Int32) : kb_M := kb_ro (kb_up C (4 + 3 * b) r e) (5 + 3 * b) (fun j => if j / 4 = r then 0 else C (5 + 3 * b) j)
theorem ck_free {C : kb_M} {b : Nat} (hb : b < 2) (e : Int32) : kb_E (kb_en kz_Pool_bindFreeOne [.inr (some (3 + 3 * b)), .inl e] C) (fun q => (∃ r, r < 12 + 12 * b ∧ C (4 + 3 * b) r = -1 ∧ q = (some (.inl (nI r)), kx_bn C b r e)) ∨ ((∀ r, r < 12 + 12 * b → C (4 + 3 * b) r ≠ -1) ∧ q = (some (.inl (-1)), C))) := by
  have h := cp_bindFreeOne (kp_b hb) C e
  rw [show 3 + 3 * b + 1 = 4 + 3 * b by omega, show 3 + 3 * b + 2 = 5 + 3 * b by omega] at h
  exact h
theorem ck_share {N : Nat} {C R : kb_M} (h : ki_J N C R) (hK : ki_K C R) {b e : Nat} (hb : b < 2) (he : e < 4) : kb_E (kb_en kz_Pool_hasFullShare [.inr (some (3 + 3 * b)), .inl (nI e)] C) (fun q => q = (some (.inl (if 3 + 3 * b ≤ kr_c R e b then 1 else 0)), C)) := by
  have hs : C (3 + 3 * b) 0 = nI (3 + 3 * b) := by
    match b, hb with
    | 0, _ => exact hK.2.1
    | 1, _ => exact hK.2.2.1
  have q := cp_hasFullShare (kp_b hb) C (nI e) hs (by omega)
  rw [show 3 + 3 * b + 1 = 4 + 3 * b by omega, h.2.2.2.1 b hb e he] at q
  exact q
set_option maxRecDepth 100000 in
/-- a claim of e for kind b -/
theorem ck_claim {N : Nat} {C R : kb_M} (h : ki_J N C R) (hK : ki_K C R) (hd : kr_dl R) {b e : Nat} (hb : b < 2) (he : e < 4) : kb_E (kb_en kz_Kernel_claim [.inr (some 1), .inl (nI e), .inl (nI b)] C) (fun q => (∃ r, r < 12 + 12 * b ∧ C (4 + 3 * b) r = -1 ∧ q = (some (.inl (nI r)), kx_bn C b r (nI e))) ∨ (kr_f R b = 0 ∧ 3 + 3 * b ≤ kr_c R e b ∧ q = (some (.inl (-2)), C)) ∨ (kr_f R b = 0 ∧ kr_c R e b < 3 + 3 * b ∧ q.1 = some (.inl (-3)) ∧ ki_J N q.2 (kr_wi R (nI b)) ∧ kx_wi C q.2)) := by
  have key : ∀ c, c = 3 + 3 * b → kb_E (kz_Kernel_claim, 6, [some (.inr (some 1)), some (.inl (nI e)), some (.inl (nI b)), some (.inr (some c)), none], [], C) (fun q => (∃ r, r < 12 + 12 * b ∧ C (4 + 3 * b) r = -1 ∧ q = (some (.inl (nI r)), kx_bn C b r (nI e))) ∨ (kr_f R b = 0 ∧ 3 + 3 * b ≤ kr_c R e b ∧ q = (some (.inl (-2)), C)) ∨ (kr_f R b = 0 ∧ kr_c R e b < 3 + 3 * b ∧ q.1 = some (.inl (-3)) ∧ ki_J N q.2 (kr_wi R (nI b)) ∧ kx_wi C q.2)) := by
    intro c hc
    have F := ck_free (C := C) hb (nI e)
    have S := ck_share h hK hb he
    have E := ck_earliest h hd (b := b)
    have A := fun hno => ck_askRicher h hK.1 hb hno
    have part2 : (∀ r, r < 12 + 12 * b → C (4 + 3 * b) r ≠ -1) → kb_E (kz_Kernel_claim, 22, [some (.inr (some 1)), some (.inl (nI e)), some (.inl (nI b)), some (.inr (some c)), some (.inl (-1))], [], C) (fun q => (∃ r, r < 12 + 12 * b ∧ C (4 + 3 * b) r = -1 ∧ q = (some (.inl (nI r)), kx_bn C b r (nI e))) ∨ (kr_f R b = 0 ∧ 3 + 3 * b ≤ kr_c R e b ∧ q = (some (.inl (-2)), C)) ∨ (kr_f R b = 0 ∧ kr_c R e b < 3 + 3 * b ∧ q.1 = some (.inl (-3)) ∧ ki_J N q.2 (kr_wi R (nI b)) ∧ kx_wi C q.2)) := by
      intro hn
      have hf := kx_none h hb hn
      have part3 : kr_c R e b < 3 + 3 * b → kb_E (kz_Kernel_claim, 33, [some (.inr (some 1)), some (.inl (nI e)), some (.inl (nI b)), some (.inr (some c)), some (.inl (-1))], [], C) (fun q => (∃ r, r < 12 + 12 * b ∧ C (4 + 3 * b) r = -1 ∧ q = (some (.inl (nI r)), kx_bn C b r (nI e))) ∨ (kr_f R b = 0 ∧ 3 + 3 * b ≤ kr_c R e b ∧ q = (some (.inl (-2)), C)) ∨ (kr_f R b = 0 ∧ kr_c R e b < 3 + 3 * b ∧ q.1 = some (.inl (-3)) ∧ ki_J N q.2 (kr_wi R (nI b)) ∧ kx_wi C q.2)) := by
        intro hsh
        refine kb_go 40 [] ?_
        refine kb_E_then E (fun v M hq => ?_)
        obtain ⟨k, hk, e1⟩ := hq
        cases e1
        refine And.intro (fun h2 => ?_) (fun h2 => ?_)
        · have h2 : ¬ nI k = nI 2147483647 := of_decide_eq_true h2
          rcases hk with ⟨k1, -⟩ | ⟨k1, k2⟩
          · exact absurd (by rw [k1]) h2
          · refine And.intro rfl (Or.inr (Or.inr ⟨hf, hsh, rfl, ?_, fun _ _ _ _ _ => rfl⟩))
            have hw : kr_wi R (nI b) = R := by
              unfold kr_wi
              rw [if_neg (by rw [k2]; exact nI_pos (by omega))]
            rw [hw]
            exact h
        · have h2 : nI k = nI 2147483647 := Classical.not_not.mp (of_decide_eq_false h2)
          rcases hk with ⟨-, k2⟩ | ⟨k1, -⟩
          · refine kb_E_then (A (by rw [k2]; decide)) (fun v M hq => ?_)
            obtain ⟨q1, q2, q3⟩ := hq
            dsimp only at q1 q2 q3
            subst q1
            exact And.intro rfl (Or.inr (Or.inr ⟨hf, hsh, rfl, q2, q3⟩))
          · rw [nI_eq (by omega) (by omega)] at h2
            omega
      match b, hb with
      | 0, _ =>
        subst hc
        refine kb_go 40 [33] ?_
        refine kb_E_to S ?_
        by_cases hsh : 3 + 3 * 0 ≤ kr_c R e 0
        · rw [if_pos hsh]
          refine And.intro (fun h => absurd h (by decide)) (fun _ => ?_)
          exact And.intro rfl (Or.inr (Or.inl ⟨hf, hsh, rfl⟩))
        · rw [if_neg hsh]
          exact And.intro (fun _ => part3 (by omega)) (fun h => absurd h (by decide))
      | 1, _ =>
        subst hc
        refine kb_go 40 [33] ?_
        refine kb_E_to S ?_
        by_cases hsh : 3 + 3 * 1 ≤ kr_c R e 1
        · rw [if_pos hsh]
          refine And.intro (fun h => absurd h (by decide)) (fun _ => ?_)
          exact And.intro rfl (Or.inr (Or.inl ⟨hf, hsh, rfl⟩))
        · rw [if_neg hsh]
          exact And.intro (fun _ => part3 (by omega)) (fun h => absurd h (by decide))
    match b, hb with
    | 0, _ =>
      subst hc
      refine kb_go 40 [22] ?_
      refine kb_E_then F (fun v M hq => ?_)
      rcases hq with ⟨r, r1, r2, e1⟩ | ⟨hn, e1⟩
      · cases e1
        refine And.intro (fun h2 => absurd (of_decide_eq_true h2) (nI_m1 (by omega))) (fun _ => ?_)
        exact And.intro rfl (Or.inl ⟨r, r1, r2, rfl⟩)
      · cases e1
        exact And.intro (fun _ => part2 hn) (fun h => absurd h (by decide))
    | 1, _ =>
      subst hc
      refine kb_go 40 [22] ?_
      refine kb_E_then F (fun v M hq => ?_)
      rcases hq with ⟨r, r1, r2, e1⟩ | ⟨hn, e1⟩
      · cases e1
        refine And.intro (fun h2 => absurd (of_decide_eq_true h2) (nI_m1 (by omega))) (fun _ => ?_)
        exact And.intro rfl (Or.inl ⟨r, r1, r2, rfl⟩)
      · cases e1
        exact And.intro (fun _ => part2 hn) (fun h => absurd h (by decide))
  refine kb_go 40 [6] ?_
  refine kb_E_to (ck_poolOf C hb) ?_
  exact key _ rfl
end
section
/-! the public methods that concern guests, time and counts -/
/-- the time; deadlines lie ahead of it -/
def ki_T (N : Nat) (R : kb_M) : Prop := ∃ n, R 33 0 = nI n ∧ n ≤ 55 * N ∧ ∀ g t, g < 2 → t < kr_bd R g → R 42 (60 * g + t) = 3 → ∃ d, R 43 (60 * g + t) = nI d ∧ n < d ∧ d ≤ n + 5
def ki_V (N : Nat) (C R : kb_M) : Prop := ki_J N C R ∧ ki_T N R ∧ ki_K C R ∧ ki_L C R ∧ ki_X C R
theorem kt_dl {N : Nat} {R : kb_M} (h : ki_T N R) (hN : N ≤ 600) : kr_dl R := by
  obtain ⟨n, -, h2, h3⟩ := h
  intro g t hg ht hs
  obtain ⟨d, d1, d2, d3⟩ := h3 g t hg ht hs
  exact ⟨d, by omega, d1⟩
theorem kt_same {N : Nat} {R S : kb_M} (h : ki_T N R) (h33 : S 33 0 = R 33 0) (h39 : S 39 = R 39) (h4 : ∀ j, S 42 j = 3 → R 42 j = 3 ∧ S 43 j = R 43 j) : ki_T N S := by
  obtain ⟨n, h1, h2, h3⟩ := h
  refine ⟨n, h33.trans h1, h2, fun g t hg ht hs => ?_⟩
  obtain ⟨q1, q2⟩ := h4 _ hs
  rw [q2]
  unfold kr_bd at ht
  rw [h39] at ht
  exact h3 g t hg ht q1
theorem kv_same {N : Nat} {C D R S : kb_M} (h : ki_V N C R) (J : ki_J N D S) (T : ki_T N S) (d1 : D 1 0 = C 1 0) (d3 : D 3 = C 3) (d6 : D 6 = C 6) (d9 : D 9 0 = C 9 0) (d14 : D 14 0 = C 14 0) (d19 : D 19 = C 19) (d26 : D 26 = C 26) (s33 : S 33 = R 33) (s40 : S 40 = R 40) : ki_V N D S := by
  obtain ⟨-, -, ⟨k1, k2, k3, k4, k5⟩, hL, ⟨x1, x2⟩⟩ := h
  refine ⟨J, T, ⟨by rw [d1, s33]; exact k1, by rw [d3]; exact k2, by rw [d6]; exact k3, by rw [d19]; exact k4, by rw [d26]; exact k5⟩, fun g hg => ?_, by rw [d19, d26, s33]; exact x1, by rw [d19, d26, s33]; exact x2⟩
  rw [s40, ← hL g hg]
  match g, hg with
  | 0, _ => exact d9
  | 1, _ => exact d14
theorem kr_i4 {i : Int32} : (0 ≤ i ∧ i < 4) ↔ (0 ≤ i ∧ i ≤ 3) := by
  constructor
  · intro h
    obtain ⟨k, hk, rfl⟩ := kp_in4 h
    exact kr_out (n := 3) (by omega) (by omega)
  · intro h
    obtain ⟨k, hk, rfl⟩ := kr_in i (n := 3) (by decide) h
    exact ⟨h.1, nI_lt (b := 4) (by omega) (by omega)⟩
/-- what the class knows of ticket v of guest g -/
theorem kv_dead {N : Nat} {C R : kb_M} (h : ki_J N C R) {g : Nat} (hg : g < 2) {v : Int32} (hl : kr_lt R (nI (2 + g)) v = none) : ∀ t, t < kr_bd R g → v = nI t → ¬ (C (9 + 5 * g + 3) t = 2 ∨ C (9 + 5 * g + 3) t = 3) := by
  intro t ht hv
  rw [hv, kr_lt_at h.1 hg ht] at hl
  rw [show 9 + 5 * g + 3 = 12 + 5 * g by omega, ((h.2.2.2.2.1 g hg).2.1 t ht).2.1]
  intro q
  have : 2 ≤ R 42 (60 * g + t) := by
    rcases q with q | q
    · rw [q]; decide
    · rw [q]; decide
  rw [if_pos this] at hl
  cases hl
theorem kv_live {N : Nat} {C R : kb_M} (h : ki_J N C R) {g : Nat} (hg : g < 2) {v : Int32} {j : Nat} (hl : kr_lt R (nI (2 + g)) v = some j) : ∃ t b r, t < kr_bd R g ∧ v = nI t ∧ j = 60 * g + t ∧ j < 120 ∧ 2 ≤ R 42 j ∧ (C (9 + 5 * g + 3) t = 2 ∨ C (9 + 5 * g + 3) t = 3) ∧ C (9 + 5 * g + 3) t = R 42 j ∧ b < 2 ∧ R 41 j = nI b ∧ C (9 + 5 * g + 1) t = nI b ∧ r < 12 + 12 * b ∧ C (9 + 5 * g + 2) t = nI r ∧ (∀ k, k < 4 → C (5 + 3 * b) (4 * r + k) = R 44 (4 * j + k)) := by
  obtain ⟨g', t, hg', ht, e1, e2, e3, e4, e5⟩ := kr_lt_lt h.1 hl
  have eg : g = g' := by
    have := (nI_eq (a := 2 + g) (b := 2 + g') (by omega) (by omega)).mp e1
    omega
  subst eg
  obtain ⟨b, hb, hk⟩ := kr_kd h.1 e4
  obtain ⟨t1, t2, -⟩ := (h.2.2.2.2.1 g hg).2.1 t ht
  obtain ⟨r, r1, r2, r3, r4⟩ := (h.2.2.2.2.1 g hg).2.2.1 t ht (by rw [← e3]; exact e5) b hb (by rw [← e3]; exact hk)
  rw [← e3] at t1 t2 r4
  obtain ⟨s, s1, s2⟩ := h.2.1 j e4
  refine ⟨t, b, r, ht, e2, e3, e4, e5, ?_, ?_, hb, hk, ?_, r1, ?_, r4⟩
  · rw [show 9 + 5 * g + 3 = 12 + 5 * g by omega, t2, s2]
    rw [s2, kr_2 (by omega)] at e5
    have : s = 2 ∨ s = 3 := by omega
    rcases this with rfl | rfl
    · exact Or.inl rfl
    · exact Or.inr rfl
  · rw [show 9 + 5 * g + 3 = 12 + 5 * g by omega]; exact t2
  · rw [show 9 + 5 * g + 1 = 10 + 5 * g by omega, t1]; exact hk
  · rw [show 9 + 5 * g + 2 = 11 + 5 * g by omega]; exact r2
theorem kg_in {g : Nat} (hg : g < 2) : kg_P (9 + 5 * g) := by
  match g, hg with
  | 0, _ => exact Or.inl rfl
  | 1, _ => exact Or.inr rfl
theorem kv_tc {N : Nat} {C R : kb_M} (h : ki_J N C R) {g : Nat} (hg : g < 2) : C (9 + 5 * g) 7 = nI (kr_bd R g) ∧ kr_bd R g ≤ 60 := ⟨(h.2.2.2.2.1 g hg).1.trans (h.1.1 g hg).1, (h.1.1 g hg).2⟩
theorem kr_lt_no {R : kb_M} {u : Int32} (hu : ¬ (2 ≤ u ∧ u ≤ 3)) (v : Int32) : kr_lt R u v = none := by
  unfold kr_lt
  rw [if_neg (fun q => hu q.1)]
-- time
set_option maxRecDepth 100000 in
theorem op_time {N : Nat} {C R : kb_M} (h : ki_V N C R) : kb_E (kb_en kz_BK_time [.inr (some 0)] C) (fun q => q = (some (.inl (R 33 0)), C)) := by
  refine kb_go 20 [] ?_
  refine And.intro rfl ?_
  show (some (Sum.inl (C 1 0)), C) = _
  rw [h.2.2.1.1]
set_option maxRecDepth 100000 in
theorem op_transfers {N : Nat} {C R : kb_M} (h : ki_V N C R) {b : Nat} (hb : b < 2) : kb_E (kb_en kz_BK_transfers [.inr (some 0), .inl (nI b)] C) (fun q => q = (some (.inl (if nI b = 0 then R 33 2 else R 33 1)), C)) := by
  obtain ⟨-, -, -, -, x1, x2⟩ := h
  match b, hb with
  | 0, _ =>
    rw [if_pos (show nI 0 = 0 from rfl)]
    refine kb_go 100 [] ?_
    refine And.intro (fun h => absurd h (by decide)) (fun _ => And.intro rfl ?_)
    refine And.intro (fun _ => ?_) (fun h => absurd h (by decide))
    refine And.intro (fun h => absurd h (by decide)) (fun _ => And.intro rfl ?_)
    refine And.intro (fun _ => ?_) (fun h => absurd h (by decide))
    refine And.intro (fun _ => ?_) (fun h => absurd h (by decide))
    refine And.intro rfl ?_
    show (some (Sum.inl (Int32.ofInt 0 + C 19 0 + C 26 0)), C) = _
    rw [show Int32.ofInt 0 = 0 from rfl, Int32.zero_add, x1]
  | 1, _ =>
    rw [if_neg (show ¬ nI 1 = 0 by decide)]
    refine kb_go 100 [] ?_
    refine And.intro (fun h => absurd h (by decide)) (fun _ => And.intro rfl ?_)
    refine And.intro (fun h => absurd h (by decide)) (fun _ => ?_)
    refine And.intro (fun h => absurd h (by decide)) (fun _ => And.intro rfl ?_)
    refine And.intro (fun h => absurd h (by decide)) (fun _ => ?_)
    refine And.intro (fun _ => ?_) (fun h => absurd h (by decide))
    refine And.intro rfl ?_
    show (some (Sum.inl (Int32.ofInt 0 + C 19 1 + C 26 1)), C) = _
    rw [show Int32.ofInt 0 = 0 from rfl, Int32.zero_add, x2]
set_option maxRecDepth 100000 in
theorem op_free {N : Nat} {C R : kb_M} (h : ki_V N C R) {b : Nat} (hb : b < 2) : kb_E (kb_en kz_BK_free [.inr (some 0), .inl (nI b)] C) (fun q => q = (some (.inl (kr_f R b)), C)) := by
  have F := cp_countFree (kp_b hb) C
  rw [show 3 + 3 * b + 1 = 4 + 3 * b by omega, ← kx_free h.1 hb] at F
  refine kb_go 20 [] ?_
  refine kb_E_to (ck_poolOf C hb) ?_
  match b, hb with
  | 0, _ => exact kb_E_to F (And.intro rfl rfl)
  | 1, _ => exact kb_E_to F (And.intro rfl rfl)
set_option maxRecDepth 100000 in
theorem op_isEnv (C : kb_M) (v : Int32) : kb_E (kb_en kz_BK_isEnvironment [.inl v] C) (fun q => q = (some (.inl (if 0 ≤ v ∧ v ≤ 3 then 1 else 0)), C)) := by
  refine kb_go 20 [] ?_
  refine And.intro (fun h => ?_) (fun h => ?_)
  · have h : v < 0 := of_decide_eq_true h
    rw [if_neg (fun q => absurd q.1 (Int32.not_le.mpr h))]
    exact And.intro rfl rfl
  · have h : ¬ v < 0 := of_decide_eq_false h
    refine And.intro (fun h2 => ?_) (fun h2 => ?_)
    · have h2 : 4 ≤ v := of_decide_eq_true h2
      rw [if_neg (fun q => absurd (kr_i4.mpr q).2 (Int32.not_lt.mpr h2))]
      exact And.intro rfl rfl
    · have h2 : ¬ 4 ≤ v := of_decide_eq_false h2
      rw [if_pos (kr_i4.mp ⟨Int32.not_lt.mp h, Int32.not_le.mp h2⟩)]
      exact And.intro rfl rfl
set_option maxRecDepth 100000 in
theorem op_held {N : Nat} {C R : kb_M} (h : ki_V N C R) (v : Int32) {b : Nat} (hb : b < 2) : kb_E (kb_en kz_BK_held [.inr (some 0), .inl v, .inl (nI b)] C) (fun q => q = (some (.inl (if 0 ≤ v ∧ v ≤ 3 then nI (kr_c R v.toNatClampNeg b) else -1)), C)) := by
  refine kb_go 40 [] ?_
  refine kb_E_to (op_isEnv C v) ?_
  by_cases hv : 0 ≤ v ∧ v ≤ 3
  · rw [if_pos hv, if_pos hv]
    obtain ⟨e, he, rfl⟩ := kr_env hv
    have F := cp_countHeldBy (kp_b hb) C (nI e)
    rw [show 3 + 3 * b + 1 = 4 + 3 * b by omega, h.1.2.2.2.1 b hb e he] at F
    rw [nI_clamp (by omega)]
    refine And.intro (fun h => absurd h (by decide)) (fun _ => ?_)
    refine kb_E_to (ck_poolOf C hb) ?_
    match b, hb with
    | 0, _ => exact kb_E_to F (And.intro rfl rfl)
    | 1, _ => exact kb_E_to F (And.intro rfl rfl)
  · rw [if_neg hv, if_neg hv]
    exact And.intro (fun _ => And.intro rfl rfl) (fun h => absurd h (by decide))
set_option maxRecDepth 100000 in
theorem op_losses {N : Nat} {C R : kb_M} (h : ki_V N C R) (v : Int32) : kb_E (kb_en kz_BK_losses [.inr (some 0), .inl v] C) (fun q => q = (some (.inl (if 0 ≤ v ∧ v ≤ 3 then (if v < 2 then 0 else R 40 (v - 2).toNatClampNeg) else -1)), C)) := by
  refine kb_go 40 [] ?_
  refine kb_E_to (op_isEnv C v) ?_
  by_cases hv : 0 ≤ v ∧ v ≤ 3
  · rw [if_pos hv, if_pos hv]
    obtain ⟨e, he, rfl⟩ := kr_env hv
    refine And.intro (fun _ => ?_) (fun h => absurd h (by decide))
    rcases kr_env2 he with he2 | ⟨g, hg, rfl⟩
    · have h2 : nI e < 2 := nI_lt (b := 2) he2 (by omega)
      rw [if_pos h2]
      refine kb_E_to (ck_guestOf_no C (fun q => absurd q.1 (Int32.not_le.mpr h2))) ?_
      exact And.intro rfl rfl
    · have h2 : ¬ nI (2 + g) < 2 := nI_nlt (a := 2 + g) (b := 2) (by omega) (by omega)
      rw [if_neg h2]
      refine kb_E_to (ck_guestOf C hg) ?_
      have hL := h.2.2.2.1 g hg
      have eg : (nI (2 + g) - 2).toNatClampNeg = g := by rw [show nI (2 + g) - 2 = nI g from kr_g2 hg, nI_clamp (by omega)]
      rw [eg, ← hL]
      match g, hg with
      | 0, _ => exact And.intro rfl rfl
      | 1, _ => exact And.intro rfl rfl
  · rw [if_neg hv, if_neg hv]
    exact And.intro (fun h => absurd h (by decide)) (fun _ => And.intro rfl rfl)
set_option maxRecDepth 100000 in
theorem op_state {N : Nat} {C R : kb_M} (h : ki_V N C R) (u v : Int32) : kb_E (kb_en kz_BK_state [.inr (some 0), .inl u, .inl v] C) (fun q => q = (some (.inl (if (2 ≤ u ∧ u ≤ 3) ∧ (0 ≤ v ∧ v ≤ R 39 (u - 2).toNatClampNeg - 1) then R 42 (60 * (u - 2).toNatClampNeg + v.toNatClampNeg) else -1)), C)) := by
  refine kb_go 40 [] ?_
  by_cases hu : 2 ≤ u ∧ u ≤ 3
  · obtain ⟨g, hg, rfl⟩ := kr_gst hu
    have eg : (nI (2 + g) - 2).toNatClampNeg = g := by rw [show nI (2 + g) - 2 = nI g from kr_g2 hg, nI_clamp (by omega)]
    obtain ⟨t1, t2⟩ := kv_tc h.1 hg
    have hbd := (h.1.1.1 g hg).1
    have S := cg_stateOf (kg_in hg) t1 t2 v
    rw [eg, hbd]
    refine kb_E_to (ck_guestOf C hg) ?_
    have K : ∀ x, (if 0 ≤ v ∧ v ≤ nI (kr_bd R g) - 1 then C (9 + 5 * g + 3) v.toNatClampNeg else -1) = x → (if (2 ≤ nI (2 + g) ∧ nI (2 + g) ≤ 3) ∧ 0 ≤ v ∧ v ≤ nI (kr_bd R g) - 1 then R 42 (60 * g + v.toNatClampNeg) else -1) = x := by
      intro x hx
      rw [← hx]
      by_cases hv : 0 ≤ v ∧ v ≤ nI (kr_bd R g) - 1
      · rw [if_pos hv, if_pos ⟨hu, hv⟩]
        obtain ⟨t, ht, rfl⟩ := (kr_tk (by omega)).mp hv
        rw [nI_clamp (by omega), show 9 + 5 * g + 3 = 12 + 5 * g by omega, ((h.1.2.2.2.2.1 g hg).2.1 t ht).2.1]
      · rw [if_neg hv, if_neg (fun q => hv q.2)]
    rw [K _ rfl]
    match g, hg with
    | 0, _ => exact kb_E_to S (And.intro rfl rfl)
    | 1, _ => exact kb_E_to S (And.intro rfl rfl)
  · refine kb_E_to (ck_guestOf_no C hu) ?_
    rw [if_neg (fun q => hu q.1)]
    exact And.intro rfl rfl
set_option maxRecDepth 100000 in
theorem op_get {N : Nat} {C R : kb_M} (h : ki_V N C R) (u v i : Int32) : kb_E (kb_en kz_BK_get [.inr (some 0), .inl u, .inl v, .inl i] C) (fun q => q = (some (.inl (kr_get R u v i)), C)) := by
  refine kb_go 40 [] ?_
  by_cases hu : 2 ≤ u ∧ u ≤ 3
  · obtain ⟨g, hg, rfl⟩ := kr_gst hu
    obtain ⟨t1, t2⟩ := kv_tc h.1 hg
    refine kb_E_to (ck_guestOf C hg) ?_
    have W : kb_E (kb_en kz_Guest_getWord [.inr (some (9 + 5 * g)), .inl v, .inl i] C) (fun q => q = (some (.inl (kr_get R (nI (2 + g)) v i)), C)) := by
      unfold kr_get
      cases hl : kr_lt R (nI (2 + g)) v with
      | none => exact cg_getWord_n (kg_in hg) (cg_isLiveOf_n (kg_in hg) t1 t2 (kv_dead h.1 hg hl) 0) i
      | some j =>
        obtain ⟨t, b, r, w1, rfl, w3, w4, w5, w6, w7, w8, w9, w10, w11, w12, w13⟩ := kv_live h.1 hg hl
        match b, w8 with
        | 0, _ =>
          have G := cg_getWord_y (kg_in hg) t1 t2 w1 w6 w10 w12 w11 i
          show kb_E _ (fun q => q = (some (Sum.inl (if R 41 j = 0 ∧ 0 ≤ i ∧ i ≤ 3 then R 44 (4 * j + i.toNatClampNeg) else 0)), C))
          by_cases hi : 0 ≤ i ∧ i ≤ 3
          · rw [if_pos ⟨w9, hi⟩]
            rw [if_pos (kr_i4.mpr hi)] at G
            obtain ⟨k, hk, rfl⟩ := kr_in i (n := 3) (by decide) hi
            rw [nI_clamp (by omega)] at G ⊢
            rw [← w13 k (by omega)]
            exact G
          · rw [if_neg (fun q => hi q.2)]
            rw [if_neg (fun q => hi (kr_i4.mp q))] at G
            exact G
        | 1, _ =>
          have I := cg_isLiveOf_y (kg_in hg) t1 t2 w1 w6 0
          rw [if_neg (by rw [w10]; decide)] at I
          show kb_E _ (fun q => q = (some (Sum.inl (if R 41 j = 0 ∧ 0 ≤ i ∧ i ≤ 3 then R 44 (4 * j + i.toNatClampNeg) else 0)), C))
          rw [if_neg (fun q => by rw [w9] at q; exact absurd q.1 (by decide))]
          exact cg_getWord_n (kg_in hg) I i
    match g, hg with
    | 0, _ => exact kb_E_to W (And.intro rfl rfl)
    | 1, _ => exact kb_E_to W (And.intro rfl rfl)
  · refine kb_E_to (ck_guestOf_no C hu) ?_
    unfold kr_get
    rw [kr_lt_no hu]
    exact And.intro rfl rfl
end
section
/-! the public methods that change a guest's tickets -/
set_option maxRecDepth 100000 in
theorem op_put {N : Nat} {C R : kb_M} (h : ki_V N C R) (u v i w : Int32) : kb_E (kb_en kz_BK_put [.inr (some 0), .inl u, .inl v, .inl i, .inl w] C) (fun q => q.1 = (kr_put R u v i w).1 ∧ ki_V N q.2 (kr_put R u v i w).2) := by
  refine kb_go 40 [] ?_
  by_cases hu : 2 ≤ u ∧ u ≤ 3
  · obtain ⟨g, hg, rfl⟩ := kr_gst hu
    obtain ⟨t1, t2⟩ := kv_tc h.1 hg
    refine kb_E_to (ck_guestOf C hg) ?_
    have W : kb_E (kb_en kz_Guest_putWord [.inr (some (9 + 5 * g)), .inl v, .inl i, .inl w] C) (fun q => (q.1 = some (.inl 0) ∨ q.1 = some (.inl 1)) ∧ q.1 = (kr_put R (nI (2 + g)) v i w).1 ∧ ki_V N q.2 (kr_put R (nI (2 + g)) v i w).2) := by
      unfold kr_put
      cases hl : kr_lt R (nI (2 + g)) v with
      | none => exact kb_E_to (cg_putWord_n (kg_in hg) (cg_isLiveOf_n (kg_in hg) t1 t2 (kv_dead h.1 hg hl) 0) i w) ⟨Or.inl rfl, rfl, h⟩
      | some j =>
        obtain ⟨t, b, r, w1, rfl, w3, w4, w5, w6, w7, w8, w9, w10, w11, w12, w13⟩ := kv_live h.1 hg hl
        match b, w8 with
        | 0, _ =>
          have G := cg_putWord_y (kg_in hg) t1 t2 w1 w6 w10 w12 w11 i w
          show kb_E _ (fun q => _ ∧ q.1 = (if R 41 j = 0 ∧ 0 ≤ i ∧ i ≤ 3 then (some (Sum.inl 1), kb_up R 44 (4 * j + i.toNatClampNeg) w) else (some (Sum.inl 0), R)).1 ∧ ki_V N q.2 (if R 41 j = 0 ∧ 0 ≤ i ∧ i ≤ 3 then (some (Sum.inl 1), kb_up R 44 (4 * j + i.toNatClampNeg) w) else (some (Sum.inl 0), R)).2)
          by_cases hi : 0 ≤ i ∧ i ≤ 3
          · rw [if_pos ⟨w9, hi⟩]
            rw [if_pos (kr_i4.mpr hi)] at G
            obtain ⟨k, hk, rfl⟩ := kr_in i (n := 3) (by decide) hi
            rw [nI_clamp (by omega)] at G ⊢
            refine kb_E_to G ⟨Or.inr rfl, rfl, ?_⟩
            have J : ki_J N (kb_ro C (5 + 3 * 0) (upd (C 5) (4 * r + k) w)) (kb_ro R 44 (upd (R 44) (4 * j + k) w)) := ki_wr h.1 hg w1 (by rw [← w3]; exact w5) (by decide) (by rw [← w3]; exact w9) w11 (by rw [show 11 + 5 * g = 9 + 5 * g + 2 by omega]; exact w12) (fun q hq => pk_un (by omega)) (fun q hq => pk_un (by omega)) (fun m hm => by
              rw [← w3]
              unfold upd
              by_cases hmk : m = k
              · rw [if_pos (by omega), if_pos (by omega)]
              · rw [if_neg (by omega), if_neg (by omega)]
                exact w13 m hm)
            exact kv_same h J (kt_same h.2.1 rfl rfl (fun q hq => ⟨hq, rfl⟩)) rfl rfl rfl rfl rfl rfl rfl rfl rfl
          · rw [if_neg (fun q => hi q.2)]
            rw [if_neg (fun q => hi (kr_i4.mp q))] at G
            exact kb_E_to G ⟨Or.inl rfl, rfl, h⟩
        | 1, _ =>
          have I := cg_isLiveOf_y (kg_in hg) t1 t2 w1 w6 0
          rw [if_neg (by rw [w10]; decide)] at I
          show kb_E _ (fun q => _ ∧ q.1 = (if R 41 j = 0 ∧ 0 ≤ i ∧ i ≤ 3 then (some (Sum.inl 1), kb_up R 44 (4 * j + i.toNatClampNeg) w) else (some (Sum.inl 0), R)).1 ∧ ki_V N q.2 (if R 41 j = 0 ∧ 0 ≤ i ∧ i ≤ 3 then (some (Sum.inl 1), kb_up R 44 (4 * j + i.toNatClampNeg) w) else (some (Sum.inl 0), R)).2)
          rw [if_neg (fun q => by rw [w9] at q; exact absurd q.1 (by decide))]
          exact kb_E_to (cg_putWord_n (kg_in hg) I i w) ⟨Or.inl rfl, rfl, h⟩
    have fin : ∀ (x : Option kb_v) (M : kb_M), (x = some (.inl 0) ∨ x = some (.inl 1)) ∧ x = (kr_put R (nI (2 + g)) v i w).1 ∧ ki_V N M (kr_put R (nI (2 + g)) v i w).2 → ∃ y, x = some (.inl y) ∧ (y = 0 ∨ y = 1) ∧ some (.inl y) = (kr_put R (nI (2 + g)) v i w).1 ∧ ki_V N M (kr_put R (nI (2 + g)) v i w).2 := by
      rintro x M ⟨h1 | h1, h2, h3⟩
      · exact ⟨0, h1, Or.inl rfl, by rw [← h2, h1], h3⟩
      · exact ⟨1, h1, Or.inr rfl, by rw [← h2, h1], h3⟩
    match g, hg with
    | 0, _ =>
      refine kb_E_then W (fun x M hq => ?_)
      obtain ⟨y, rfl, y1, y2, y3⟩ := fin x M hq
      rcases y1 with rfl | rfl
      · exact And.intro (fun _ => And.intro rfl ⟨y2, y3⟩) (fun h => absurd h (by decide))
      · exact And.intro (fun h => absurd h (by decide)) (fun _ => And.intro rfl ⟨y2, y3⟩)
    | 1, _ =>
      refine kb_E_then W (fun x M hq => ?_)
      obtain ⟨y, rfl, y1, y2, y3⟩ := fin x M hq
      rcases y1 with rfl | rfl
      · exact And.intro (fun _ => And.intro rfl ⟨y2, y3⟩) (fun h => absurd h (by decide))
      · exact And.intro (fun h => absurd h (by decide)) (fun _ => And.intro rfl ⟨y2, y3⟩)
  · refine kb_E_to (ck_guestOf_no C hu) ?_
    unfold kr_put
    rw [kr_lt_no hu]
    exact And.intro rfl ⟨rfl, h⟩
set_option maxRecDepth 100000 in
theorem op_release {N : Nat} {C R : kb_M} (h : ki_V N C R) (u v : Int32) : kb_E (kb_en kz_BK_release [.inr (some 0), .inl u, .inl v] C) (fun q => q.1 = (kr_rel R u v).1 ∧ ki_V N q.2 (kr_rel R u v).2) := by
  refine kb_go 40 [] ?_
  by_cases hu : 2 ≤ u ∧ u ≤ 3
  · obtain ⟨g, hg, rfl⟩ := kr_gst hu
    obtain ⟨t1, t2⟩ := kv_tc h.1 hg
    refine kb_E_to (ck_guestOf C hg) ?_
    have W : kb_E (kb_en kz_Guest_giveBack [.inr (some (9 + 5 * g)), .inl v] C) (fun q => ∃ y, (y = 0 ∨ y = 1) ∧ q.1 = some (.inl y) ∧ some (.inl y) = (kr_rel R (nI (2 + g)) v).1 ∧ ki_V N q.2 (kr_rel R (nI (2 + g)) v).2) := by
      unfold kr_rel
      cases hl : kr_lt R (nI (2 + g)) v with
      | none => exact kb_E_to (cg_giveBack_n (kg_in hg) t1 t2 (kv_dead h.1 hg hl)) ⟨0, Or.inl rfl, rfl, rfl, h⟩
      | some j =>
        obtain ⟨t, b, r, w1, rfl, w3, w4, w5, w6, w7, w8, w9, w10, w11, w12, w13⟩ := kv_live h.1 hg hl
        refine kb_E_to (cg_giveBack_y (kg_in hg) t1 t2 w1 w6 w8 w10 w12 w11) ⟨1, Or.inr rfl, rfl, rfl, ?_⟩
        have J := ki_end h.1 (s := 0) hg w1 (by rw [← w3]; exact w5) w8 (by rw [← w3]; exact w9) w11 (by rw [show 11 + 5 * g = 9 + 5 * g + 2 by omega]; exact w12) (by decide)
        rw [← w3, show 12 + 5 * g = 9 + 5 * g + 3 by omega] at J
        have ne : ∀ k, k ≠ 9 + 5 * g + 3 → k ≠ 4 + 3 * b → (kb_up (kb_up C (9 + 5 * g + 3) t 0) (4 + 3 * b) r (-1)) k = C k := fun k h1 h2 => by rw [kb_up_ne _ _ _ h2, kb_up_ne _ _ _ h1]
        show ki_V N (kb_up (kb_up C (9 + 5 * g + 3) t 0) (4 + 3 * b) r (-1)) (kb_up R 42 j 0)
        refine kv_same h J (kt_same h.2.1 ?_ ?_ (fun q hq => ?_)) ?_ ?_ ?_ ?_ ?_ ?_ ?_ ?_ ?_
        · rw [kb_up_ne _ _ _ (by decide)]
        · rw [kb_up_ne _ _ _ (by decide)]
        · rw [kb_up_at] at hq
          rw [kb_up_ne _ _ _ (by decide)]
          by_cases hqj : q = j
          · subst hqj
            rw [pk_us] at hq
            exact absurd hq (by decide)
          · rw [pk_un hqj] at hq
            exact ⟨hq, rfl⟩
        · rw [ne 1 (by omega) (by omega)]
        · rw [ne 3 (by omega) (by omega)]
        · rw [ne 6 (by omega) (by omega)]
        · rw [ne 9 (by omega) (by omega)]
        · rw [ne 14 (by omega) (by omega)]
        · rw [ne 19 (by omega) (by omega)]
        · rw [ne 26 (by omega) (by omega)]
        · exact kb_up_ne _ _ _ (by decide)
        · exact kb_up_ne _ _ _ (by decide)
    match g, hg with
    | 0, _ =>
      refine kb_E_then W (fun x M hq => ?_)
      obtain ⟨y, y1, rfl, y2, y3⟩ := hq
      rcases y1 with rfl | rfl
      · exact And.intro (fun _ => And.intro rfl ⟨y2, y3⟩) (fun h => absurd h (by decide))
      · exact And.intro (fun h => absurd h (by decide)) (fun _ => And.intro rfl ⟨y2, y3⟩)
    | 1, _ =>
      refine kb_E_then W (fun x M hq => ?_)
      obtain ⟨y, y1, rfl, y2, y3⟩ := hq
      rcases y1 with rfl | rfl
      · exact And.intro (fun _ => And.intro rfl ⟨y2, y3⟩) (fun h => absurd h (by decide))
      · exact And.intro (fun h => absurd h (by decide)) (fun _ => And.intro rfl ⟨y2, y3⟩)
  · refine kb_E_to (ck_guestOf_no C hu) ?_
    unfold kr_rel
    rw [kr_lt_no hu]
    exact And.intro rfl ⟨rfl, h⟩
theorem kt_mk {N : Nat} {R : kb_M} (h : ki_T N R) {j : Nat} : ki_T N (kr_mk R j) := by
  obtain ⟨n, h1, h2, h3⟩ := h
  have e33 : (kr_mk R j) 33 = R 33 := by unfold kr_mk; rw [kb_up_ne _ _ _ (by decide), kb_up_ne _ _ _ (by decide)]
  have e39 : (kr_mk R j) 39 = R 39 := by unfold kr_mk; rw [kb_up_ne _ _ _ (by decide), kb_up_ne _ _ _ (by decide)]
  have e42 : (kr_mk R j) 42 = upd (R 42) j 3 := by unfold kr_mk; rw [kb_up_ne _ _ _ (by decide), kb_up_at]
  have e43 : (kr_mk R j) 43 = upd (R 43) j (R 33 0 + 5) := by unfold kr_mk; rw [kb_up_at, kb_up_ne _ _ _ (by decide)]
  refine ⟨n, by rw [e33]; exact h1, h2, fun g t hg ht hs => ?_⟩
  unfold kr_bd at ht
  rw [e39] at ht
  rw [e42] at hs
  rw [e43]
  by_cases hj : 60 * g + t = j
  · rw [hj, pk_us]
    exact ⟨n + 5, by rw [h1, show (5 : Int32) = nI 5 from rfl, nI_add], by omega, by omega⟩
  · rw [pk_un hj] at hs ⊢
    exact h3 g t hg ht hs
theorem kv_mk {N : Nat} {C R : kb_M} (h : ki_V N C R) {g t : Nat} (hg : g < 2) (ht : t < kr_bd R g) (hl : R 42 (60 * g + t) = 2) : ki_V N (kb_up (kb_up C (12 + 5 * g) t 3) (13 + 5 * g) t (R 33 0 + 5)) (kr_mk R (60 * g + t)) := by
  have J := ki_ask h.1 hg ht hl (R 33 0 + 5)
  have ne : ∀ k, k ≠ 12 + 5 * g → k ≠ 13 + 5 * g → (kb_up (kb_up C (12 + 5 * g) t 3) (13 + 5 * g) t (R 33 0 + 5)) k = C k := fun k h1 h2 => by rw [kb_up_ne _ _ _ h2, kb_up_ne _ _ _ h1]
  refine kv_same h J (kt_mk h.2.1) ?_ ?_ ?_ ?_ ?_ ?_ ?_ ?_ ?_
  · rw [ne 1 (by omega) (by omega)]
  · rw [ne 3 (by omega) (by omega)]
  · rw [ne 6 (by omega) (by omega)]
  · rw [ne 9 (by omega) (by omega)]
  · rw [ne 14 (by omega) (by omega)]
  · rw [ne 19 (by omega) (by omega)]
  · rw [ne 26 (by omega) (by omega)]
  · unfold kr_mk; rw [kb_up_ne _ _ _ (by decide), kb_up_ne _ _ _ (by decide)]
  · unfold kr_mk; rw [kb_up_ne _ _ _ (by decide), kb_up_ne _ _ _ (by decide)]
set_option maxRecDepth 100000 in
theorem op_ask {N : Nat} {C R : kb_M} (h : ki_V N C R) (u v : Int32) : kb_E (kb_en kz_BK_ask [.inr (some 0), .inl u, .inl v] C) (fun q => q.1 = (kr_ask R u v).1 ∧ ki_V N q.2 (kr_ask R u v).2) := by
  refine kb_go 60 [] ?_
  by_cases hu : 2 ≤ u ∧ u ≤ 3
  · obtain ⟨g, hg, rfl⟩ := kr_gst hu
    obtain ⟨t1, t2⟩ := kv_tc h.1 hg
    refine kb_E_to (ck_guestOf C hg) ?_
    have W : ∀ d, d = R 33 0 + 5 → kb_E (kb_en kz_Guest_askFor [.inr (some (9 + 5 * g)), .inl v, .inl d] C) (fun q => ∃ y, (y = 0 ∨ y = 1) ∧ q.1 = some (.inl y) ∧ some (.inl y) = (kr_ask R (nI (2 + g)) v).1 ∧ ki_V N q.2 (kr_ask R (nI (2 + g)) v).2) := by
      intro d hd
      subst hd
      refine kb_E_imp (cg_askFor (kg_in hg) t1 t2 v (R 33 0 + 5)) (fun q hq => ?_)
      unfold kr_ask
      rcases hq with ⟨t, ht, rfl, hs, rfl⟩ | ⟨hno, rfl⟩
      · rw [show 9 + 5 * g + 3 = 12 + 5 * g by omega, ((h.1.2.2.2.2.1 g hg).2.1 t ht).2.1] at hs
        rw [kr_lt_at h.1.1 hg ht, if_pos (by rw [hs]; decide)]
        refine ⟨1, Or.inr rfl, rfl, ?_, ?_⟩
        · show _ = (if R 42 (60 * g + t) = 3 then _ else _ : kb_R).1
          rw [if_neg (by rw [hs]; decide)]
        · show ki_V N _ (if R 42 (60 * g + t) = 3 then _ else _ : kb_R).2
          rw [if_neg (by rw [hs]; decide)]
          have := kv_mk h hg ht hs
          rw [show 12 + 5 * g = 9 + 5 * g + 3 by omega, show 13 + 5 * g = 9 + 5 * g + 4 by omega] at this
          exact this
      · cases hl : kr_lt R (nI (2 + g)) v with
        | none => exact ⟨0, Or.inl rfl, rfl, rfl, h⟩
        | some j =>
          obtain ⟨t, b, r, w1, rfl, w3, w4, w5, w6, w7, w8, w9, w10, w11, w12, w13⟩ := kv_live h.1 hg hl
          have h3 : R 42 j = 3 := by
            rw [← w7]
            rcases w6 with w6 | w6
            · exact absurd w6 (hno t w1 rfl)
            · exact w6
          refine ⟨0, Or.inl rfl, rfl, ?_, ?_⟩
          · show _ = (if R 42 j = 3 then _ else _ : kb_R).1
            rw [if_pos h3]
          · show ki_V N _ (if R 42 j = 3 then _ else _ : kb_R).2
            rw [if_pos h3]
            exact h
    have hx : C 1 0 + Int32.ofInt 5 = R 33 0 + 5 := by rw [h.2.2.1.1]; rfl
    match g, hg with
    | 0, _ =>
      refine kb_E_then (W _ hx) (fun x M hq => ?_)
      obtain ⟨y, y1, rfl, y2, y3⟩ := hq
      rcases y1 with rfl | rfl
      · exact And.intro (fun _ => And.intro rfl ⟨y2, y3⟩) (fun h => absurd h (by decide))
      · exact And.intro (fun h => absurd h (by decide)) (fun _ => And.intro rfl ⟨y2, y3⟩)
    | 1, _ =>
      refine kb_E_then (W _ hx) (fun x M hq => ?_)
      obtain ⟨y, y1, rfl, y2, y3⟩ := hq
      rcases y1 with rfl | rfl
      · exact And.intro (fun _ => And.intro rfl ⟨y2, y3⟩) (fun h => absurd h (by decide))
      · exact And.intro (fun h => absurd h (by decide)) (fun _ => And.intro rfl ⟨y2, y3⟩)
  · refine kb_E_to (ck_guestOf_no C hu) ?_
    unfold kr_ask
    rw [kr_lt_no hu]
    exact And.intro rfl ⟨rfl, h⟩
end
section
/-! copy, bind, pass -/
/-- with the time's bound B apart from N -/
def ki_U (B : Nat) (R : kb_M) : Prop := ∃ n, R 33 0 = nI n ∧ n ≤ B ∧ ∀ g t, g < 2 → t < kr_bd R g → R 42 (60 * g + t) = 3 → ∃ d, R 43 (60 * g + t) = nI d ∧ n < d ∧ d ≤ n + 5
def ki_Z (N B : Nat) (C R : kb_M) : Prop := ki_J N C R ∧ ki_U B R ∧ ki_K C R ∧ ki_L C R ∧ ki_X C R
theorem kz_V {N : Nat} {C R : kb_M} : ki_V N C R ↔ ki_Z N (55 * N) C R := Iff.rfl
theorem kr_cpy_at {R : kb_M} {j k : Nat} (hjk : j ≠ k) (q : Nat) : (kr_cpy R j k) 44 q = if q / 4 = k then R 44 (4 * j + q % 4) else R 44 q := by
  have c1 : ∀ (S : kb_M) (m q : Nat), (kr_c1 S j k m) 44 q = if q = 4 * k + m then S 44 (4 * j + m) else S 44 q := fun S m q => by unfold kr_c1; rw [kb_up_at]; rfl
  unfold kr_cpy
  simp only [c1]
  by_cases h : q / 4 = k
  · rw [if_pos h]
    have hm : q % 4 = 0 ∨ q % 4 = 1 ∨ q % 4 = 2 ∨ q % 4 = 3 := by omega
    rcases hm with hm | hm | hm | hm
    · rw [hm, if_neg (by omega), if_neg (by omega), if_neg (by omega), if_pos (by omega)]
    · rw [hm, if_neg (by omega), if_neg (by omega), if_pos (by omega), if_neg (by omega)]
    · rw [hm, if_neg (by omega), if_pos (by omega), if_neg (by omega), if_neg (by omega)]
    · rw [hm, if_pos (by omega), if_neg (by omega), if_neg (by omega), if_neg (by omega)]
  · rw [if_neg h, if_neg (by omega), if_neg (by omega), if_neg (by omega), if_neg (by omega)]
theorem kr_cpy_ro {R : kb_M} {j k : Nat} : kr_cpy R j k = kb_ro R 44 ((kr_cpy R j k) 44) := by
  funext a q
  by_cases h : a = 44
  · subst h; rw [kb_ro_at]
  · rw [kb_ro_ne _ _ h]
    unfold kr_cpy kr_c1
    rw [kb_up_ne _ _ _ h, kb_up_ne _ _ _ h, kb_up_ne _ _ _ h, kb_up_ne _ _ _ h]
def kv_lob (R : kb_M) (g : Nat) (v : Int32) (x : Nat) : Bool := match kr_lt R (nI (2 + g)) v with
  | none => false
  | some j => decide (R 41 j = nI x)
theorem kv_lo {N : Nat} {C R : kb_M} (h : ki_J N C R) {g : Nat} (hg : g < 2) (v : Int32) (x : Nat) : kb_E (kb_en kz_Guest_isLiveOf [.inr (some (9 + 5 * g)), .inl v, .inl (nI x)] C) (fun q => q = (some (.inl (if kv_lob R g v x then 1 else 0)), C)) := by
  obtain ⟨t1, t2⟩ := kv_tc h hg
  unfold kv_lob
  cases hl : kr_lt R (nI (2 + g)) v with
  | none => exact cg_isLiveOf_n (kg_in hg) t1 t2 (kv_dead h hg hl) (nI x)
  | some j =>
    obtain ⟨t, b, r, w1, rfl, w3, w4, w5, w6, w7, w8, w9, w10, w11, w12, w13⟩ := kv_live h hg hl
    have I := cg_isLiveOf_y (kg_in hg) t1 t2 w1 w6 (nI x)
    rw [w10, ← w9] at I
    show kb_E _ (fun q => q = (some (Sum.inl (if decide (R 41 j = nI x) = true then 1 else 0)), C))
    by_cases hx : R 41 j = nI x
    · rw [if_pos hx] at I
      rw [if_pos (decide_eq_true hx)]
      exact I
    · rw [if_neg hx] at I
      rw [if_neg (by rw [decide_eq_false hx]; decide)]
      exact I
/-- the four words of ticket j go to ticket k -/
theorem kv_cp {N : Nat} {C R : kb_M} (h : ki_V N C R) {g t b r j k bj rj : Nat} (hg : g < 2) (ht : t < kr_bd R g) (hk : k = 60 * g + t) (hl : 2 ≤ R 42 k) (hb : b < 2) (hkd : R 41 k = nI b) (hr : r < 12 + 12 * b) (hres : C (9 + 5 * g + 2) t = nI r) (hbj : bj < 2) (hne : b ≠ bj) (hjk : j ≠ k) (hw : ∀ m, m < 4 → C (5 + 3 * bj) (4 * rj + m) = R 44 (4 * j + m)) : ki_V N (kp_cp C (5 + 3 * bj) (5 + 3 * b) rj r) (kr_cpy R j k) := by
  have J : ki_J N (kb_ro C (5 + 3 * b) (va_cpy (C (5 + 3 * bj)) (C (5 + 3 * b)) (4 * rj) (4 * r) 4)) (kb_ro R 44 ((kr_cpy R j k) 44)) := by
    refine ki_wr h.1 hg ht (by rw [← hk]; exact hl) hb (by rw [← hk]; exact hkd) hr (by rw [show 11 + 5 * g = 9 + 5 * g + 2 by omega]; exact hres) (fun q hq => pk_cpy_out (by omega)) (fun q hq => ?_) (fun m hm => ?_)
    · rw [kr_cpy_at hjk, if_neg (by omega)]
    · rw [kr_cpy_at hjk, if_pos (by omega), pk_cpy_in (by omega) (by omega), show 4 * rj + (4 * r + m - 4 * r) = 4 * rj + m by omega, hw m hm]
      congr 1
      omega
  rw [← kr_cpy_ro] at J
  have ne : ∀ q, q ≠ 5 + 3 * b → (kp_cp C (5 + 3 * bj) (5 + 3 * b) rj r) q = C q := fun q hq => by unfold kp_cp; rw [kb_ro_ne _ _ hq]
  have nR : ∀ q, q ≠ 44 → (kr_cpy R j k) q = R q := fun q hq => by rw [kr_cpy_ro, kb_ro_ne _ _ hq]
  refine kv_same h J (kt_same h.2.1 (by rw [nR 33 (by decide)]) (nR 39 (by decide)) (fun q hq => by rw [nR 42 (by decide)] at hq; rw [nR 43 (by decide)]; exact ⟨hq, rfl⟩)) ?_ ?_ ?_ ?_ ?_ ?_ ?_ (nR 33 (by decide)) (nR 40 (by decide))
  · rw [ne 1 (by omega)]
  · rw [ne 3 (by omega)]
  · rw [ne 6 (by omega)]
  · rw [ne 9 (by omega)]
  · rw [ne 14 (by omega)]
  · rw [ne 19 (by omega)]
  · rw [ne 26 (by omega)]
set_option maxRecDepth 100000 in
theorem op_copy {N : Nat} {C R : kb_M} (h : ki_V N C R) (u v w : Int32) : kb_E (kb_en kz_BK_copy [.inr (some 0), .inl u, .inl v, .inl w] C) (fun q => q.1 = (kr_copy R u v w).1 ∧ ki_V N q.2 (kr_copy R u v w).2) := by
  refine kb_go 40 [] ?_
  by_cases hu : 2 ≤ u ∧ u ≤ 3
  · obtain ⟨g, hg, rfl⟩ := kr_gst hu
    refine kb_E_to (ck_guestOf C hg) ?_
    have W : kb_E (kb_en kz_Guest_copyWords [.inr (some (9 + 5 * g)), .inl v, .inl w] C) (fun q => ∃ y, (y = 0 ∨ y = 1) ∧ q.1 = some (.inl y) ∧ some (.inl y) = (kr_copy R (nI (2 + g)) v w).1 ∧ ki_V N q.2 (kr_copy R (nI (2 + g)) v w).2) := by
      have v0 := kv_lo h.1 hg v 0
      have v1 := kv_lo h.1 hg v 1
      have w0 := kv_lo h.1 hg w 0
      have w1 := kv_lo h.1 hg w 1
      have none_ : (¬ (kv_lob R g v 0 = true ∧ kv_lob R g w 1 = true) ∧ ¬ (kv_lob R g v 1 = true ∧ kv_lob R g w 0 = true)) → kr_copy R (nI (2 + g)) v w = (some (.inl 0), R) → kb_E (kb_en kz_Guest_copyWords [.inr (some (9 + 5 * g)), .inl v, .inl w] C) (fun q => ∃ y, (y = 0 ∨ y = 1) ∧ q.1 = some (.inl y) ∧ some (.inl y) = (kr_copy R (nI (2 + g)) v w).1 ∧ ki_V N q.2 (kr_copy R (nI (2 + g)) v w).2) := by
        intro hn e
        rw [e]
        exact kb_E_to (cg_copy_n (kg_in hg) v0 w1 v1 w0 hn) ⟨0, Or.inl rfl, rfl, rfl, h⟩
      cases hl : kr_lt R (nI (2 + g)) v with
      | none =>
        refine none_ ⟨fun q => ?_, fun q => ?_⟩ (by unfold kr_copy; rw [hl])
        · unfold kv_lob at q; rw [hl] at q; exact absurd (show false = true from q.1) (by decide)
        · unfold kv_lob at q; rw [hl] at q; exact absurd (show false = true from q.1) (by decide)
      | some j =>
        cases hl2 : kr_lt R (nI (2 + g)) w with
        | none =>
          refine none_ ⟨fun q => ?_, fun q => ?_⟩ (by unfold kr_copy; rw [hl, hl2])
          · unfold kv_lob at q; rw [hl2] at q; exact absurd (show false = true from q.2) (by decide)
          · unfold kv_lob at q; rw [hl2] at q; exact absurd (show false = true from q.2) (by decide)
        | some k =>
          have lov : ∀ x, kv_lob R g v x = decide (R 41 j = nI x) := fun x => by unfold kv_lob; rw [hl]
          have low : ∀ x, kv_lob R g w x = decide (R 41 k = nI x) := fun x => by unfold kv_lob; rw [hl2]
          have ec : kr_copy R (nI (2 + g)) v w = if R 41 j = R 41 k then (some (.inl 0), R) else (some (.inl 1), kr_cpy R j k) := by unfold kr_copy; rw [hl, hl2]
          obtain ⟨t, b, r, a1, rfl, a3, a4, a5, a6, a7, a8, a9, a10, a11, a12, a13⟩ := kv_live h.1 hg hl
          obtain ⟨s, c, z, b1, rfl, b3, b4, b5, b6, b7, b8, b9, b10, b11, b12, b13⟩ := kv_live h.1 hg hl2
          have hle := (kv_tc h.1 hg).2
          by_cases hbc : b = c
          · refine none_ ⟨fun q => ?_, fun q => ?_⟩ (by rw [ec, if_pos (by rw [a9, b9, hbc])])
            · rw [lov, low] at q
              have q1 := of_decide_eq_true q.1
              have q2 := of_decide_eq_true q.2
              rw [a9] at q1
              rw [b9, ← hbc, q1] at q2
              exact absurd q2 (by decide)
            · rw [lov, low] at q
              have q1 := of_decide_eq_true q.1
              have q2 := of_decide_eq_true q.2
              rw [a9] at q1
              rw [b9, ← hbc, q1] at q2
              exact absurd q2 (by decide)
          · have hne : ¬ R 41 j = R 41 k := by rw [a9, b9]; exact nI_ne (by omega) (by omega) hbc
            have hjk : j ≠ k := fun q => hne (by rw [q])
            rw [ec, if_neg hne]
            have cp := kv_cp h hg b1 b3 b5 b8 b9 b11 b12 a8 (fun q => hbc q.symm) hjk a13
            have cases2 : (b = 0 ∧ c = 1) ∨ (b = 1 ∧ c = 0) := by omega
            rcases cases2 with ⟨rfl, rfl⟩ | ⟨rfl, rfl⟩
            · rw [lov, decide_eq_true a9] at v0
              rw [low, decide_eq_true b9] at w1
              exact kb_E_to (cg_copy_fb (kg_in hg) (by omega) (by omega) v0 w1 a12 b12 (by omega) (by omega)) ⟨1, Or.inr rfl, rfl, rfl, cp⟩
            · rw [lov, decide_eq_false (by rw [a9]; decide)] at v0
              rw [lov, decide_eq_true a9] at v1
              rw [low, decide_eq_true b9] at w0
              exact kb_E_to (cg_copy_bf (kg_in hg) (by omega) (by omega) v0 v1 w0 a12 b12 (by omega) (by omega)) ⟨1, Or.inr rfl, rfl, rfl, cp⟩
    match g, hg with
    | 0, _ =>
      refine kb_E_then W (fun x M hq => ?_)
      obtain ⟨y, y1, rfl, y2, y3⟩ := hq
      rcases y1 with rfl | rfl
      · exact And.intro (fun _ => And.intro rfl ⟨y2, y3⟩) (fun h => absurd h (by decide))
      · exact And.intro (fun h => absurd h (by decide)) (fun _ => And.intro rfl ⟨y2, y3⟩)
    | 1, _ =>
      refine kb_E_then W (fun x M hq => ?_)
      obtain ⟨y, y1, rfl, y2, y3⟩ := hq
      rcases y1 with rfl | rfl
      · exact And.intro (fun _ => And.intro rfl ⟨y2, y3⟩) (fun h => absurd h (by decide))
      · exact And.intro (fun h => absurd h (by decide)) (fun _ => And.intro rfl ⟨y2, y3⟩)
  · refine kb_E_to (ck_guestOf_no C hu) ?_
    unfold kr_copy
    rw [kr_lt_no hu]
    exact And.intro rfl ⟨rfl, h⟩
/-- a wish keeps all -/
theorem ku_mk {B : Nat} {R : kb_M} (h : ki_U B R) {j : Nat} : ki_U B (kr_mk R j) := by
  obtain ⟨n, h1, h2, h3⟩ := h
  have e33 : (kr_mk R j) 33 = R 33 := by unfold kr_mk; rw [kb_up_ne _ _ _ (by decide), kb_up_ne _ _ _ (by decide)]
  have e39 : (kr_mk R j) 39 = R 39 := by unfold kr_mk; rw [kb_up_ne _ _ _ (by decide), kb_up_ne _ _ _ (by decide)]
  have e42 : (kr_mk R j) 42 = upd (R 42) j 3 := by unfold kr_mk; rw [kb_up_ne _ _ _ (by decide), kb_up_at]
  have e43 : (kr_mk R j) 43 = upd (R 43) j (R 33 0 + 5) := by unfold kr_mk; rw [kb_up_at, kb_up_ne _ _ _ (by decide)]
  refine ⟨n, by rw [e33]; exact h1, h2, fun g t hg ht hs => ?_⟩
  unfold kr_bd at ht
  rw [e39] at ht
  rw [e42] at hs
  rw [e43]
  by_cases hj : 60 * g + t = j
  · rw [hj, pk_us]
    exact ⟨n + 5, by rw [h1, show (5 : Int32) = nI 5 from rfl, nI_add], by omega, by omega⟩
  · rw [pk_un hj] at hs ⊢
    exact h3 g t hg ht hs
theorem ku_wi {B : Nat} {R : kb_M} (h : ki_U B R) (b : Int32) : ki_U B (kr_wi R b) := by
  unfold kr_wi
  split
  next =>
    cases kr_la R (kr_ri R b) b (kr_bd R (kr_ri R b)) with
    | none => exact h
    | some t => exact ku_mk h
  next => exact h
theorem kz_wi {N B : Nat} {C D R : kb_M} {b : Int32} (h : ki_Z N B C R) (J : ki_J N D (kr_wi R b)) (hw : kx_wi C D) : ki_Z N B D (kr_wi R b) := by
  obtain ⟨-, hU, ⟨k1, k2, k3, k4, k5⟩, hL, ⟨x1, x2⟩⟩ := h
  have e33 : (kr_wi R b) 33 = R 33 := kr_wi_ne R b (by decide) (by decide)
  have e40 : (kr_wi R b) 40 = R 40 := kr_wi_ne R b (by decide) (by decide)
  refine ⟨J, ku_wi hU b, ?_, ?_, ?_⟩
  · unfold ki_K
    rw [hw 1 (by decide) (by decide) (by decide) (by decide), hw 3 (by decide) (by decide) (by decide) (by decide), hw 6 (by decide) (by decide) (by decide) (by decide), hw 19 (by decide) (by decide) (by decide) (by decide), hw 26 (by decide) (by decide) (by decide) (by decide), e33]
    exact ⟨k1, k2, k3, k4, k5⟩
  · intro g hg
    rw [hw (9 + 5 * g) (by omega) (by omega) (by omega) (by omega), e40]
    exact hL g hg
  · unfold ki_X
    rw [hw 19 (by decide) (by decide) (by decide) (by decide), hw 26 (by decide) (by decide) (by decide) (by decide), e33]
    exact ⟨x1, x2⟩
set_option maxRecDepth 100000 in
theorem op_bindG {N : Nat} {C R : kb_M} (h : ki_V N C R) (hN : N ≤ 600) {g b : Nat} (hg : g < 2) (hb : b < 2) : kb_E (kb_en kz_Kernel_bindForGuest [.inr (some 1), .inl (nI (2 + g)), .inl (nI b)] C) (fun q => q.1 = (kr_bind R g b).1 ∧ ki_V N q.2 (kr_bind R g b).2) := by
  obtain ⟨t1, t2⟩ := kv_tc h.1 hg
  have A := cg_hasAll (kg_in hg) t1 t2
  have CL := ck_claim h.1 h.2.2.1 (kt_dl h.2.1 hN) hb (e := 2 + g) (by omega)
  have hbb : nI b = 0 ∨ nI b = 1 := by
    match b, hb with
    | 0, _ => exact Or.inl rfl
    | 1, _ => exact Or.inr rfl
  -- what the claim gives, then the ticket
  have fin : kr_bd R g ≠ 60 → ∀ c, c = 9 + 5 * g → kb_E (kz_Kernel_bindForGuest, 19, [some (.inr (some 1)), some (.inl (nI (2 + g))), some (.inl (nI b)), some (.inr (some c)), none], [], C) (fun q => q.1 = (kr_bind R g b).1 ∧ ki_V N q.2 (kr_bind R g b).2) := by
    intro h60 c hc
    refine kb_go 40 [] ?_
    refine kb_E_then CL (fun v M hq => ?_)
    unfold kr_bind
    rw [if_neg h60]
    rcases hq with ⟨r, r1, r2, e⟩ | ⟨f1, f2, e⟩ | ⟨f1, f2, q1, q2, q3⟩
    · cases e
      rw [if_neg (kx_some h.1 hb r1 r2)]
      refine And.intro (fun h => absurd (of_decide_eq_true h) (nI_pos (by omega))) (fun _ => ?_)
      have tn : (kx_bn C b r (nI (2 + g))) (9 + 5 * g) 7 = nI (kr_bd R g) := by
        unfold kx_bn
        rw [kb_ro_ne _ _ (by omega), kb_up_ne _ _ _ (by omega)]
        exact t1
      have T := cg_addTicket (kg_in hg) tn (by omega) hbb (nI r)
      have J := ki_bind h.1 hg hb (by omega) r1 r2
      rw [show 9 + 5 * g + 1 = 10 + 5 * g by omega, show 9 + 5 * g + 2 = 11 + 5 * g by omega, show 9 + 5 * g + 3 = 12 + 5 * g by omega] at T
      have hV : ki_V N (kb_up (kb_up (kb_up (kb_up (kx_bn C b r (nI (2 + g))) (10 + 5 * g) (kr_bd R g) (nI b)) (11 + 5 * g) (kr_bd R g) (nI r)) (12 + 5 * g) (kr_bd R g) 2) (9 + 5 * g) 7 (nI (kr_bd R g + 1))) (kr_bi R g (nI b)) := by
        have eR : ∀ k, k ≠ 39 → k ≠ 41 → k ≠ 42 → k ≠ 44 → (kr_bi R g (nI b)) k = R k := fun k h1 h2 h3 h4 => by unfold kr_bi; rw [kb_up_ne _ _ _ h1, kb_ro_ne _ _ h4, kb_up_ne _ _ _ h3, kb_up_ne _ _ _ h2]
        have s39 : (kr_bi R g (nI b)) 39 = upd (R 39) g (nI (kr_bd R g + 1)) := by unfold kr_bi; rw [kb_up_at, kb_ro_ne _ _ (by decide), kb_up_ne _ _ _ (by decide), kb_up_ne _ _ _ (by decide)]
        have s42 : (kr_bi R g (nI b)) 42 = upd (R 42) (60 * g + kr_bd R g) 2 := by unfold kr_bi; rw [kb_up_ne _ _ _ (by decide), kb_ro_ne _ _ (by decide), kb_up_at, kb_up_ne _ _ _ (by decide)]
        have T' : ki_T N (kr_bi R g (nI b)) := by
          obtain ⟨n, n1, n2, n3⟩ := h.2.1
          refine ⟨n, by rw [eR 33 (by decide) (by decide) (by decide) (by decide)]; exact n1, n2, fun d u hd hu hs => ?_⟩
          rw [s42] at hs
          rw [eR 43 (by decide) (by decide) (by decide) (by decide)]
          by_cases hud : 60 * d + u = 60 * g + kr_bd R g
          · rw [hud, pk_us] at hs
            exact absurd hs (by decide)
          · rw [pk_un hud] at hs
            refine n3 d u hd ?_ hs
            unfold kr_bd at hu
            rw [s39] at hu
            unfold upd at hu
            by_cases hdg : d = g
            · subst hdg
              rw [if_pos rfl, nI_clamp (by omega)] at hu
              have : u ≠ kr_bd R d := fun q => hud (by rw [q])
              omega
            · rw [if_neg hdg] at hu
              exact hu
        have ne : ∀ k, k ≠ 4 + 3 * b → k ≠ 5 + 3 * b → k ≠ 9 + 5 * g → k ≠ 10 + 5 * g → k ≠ 11 + 5 * g → k ≠ 12 + 5 * g → (kb_up (kb_up (kb_up (kb_up (kx_bn C b r (nI (2 + g))) (10 + 5 * g) (kr_bd R g) (nI b)) (11 + 5 * g) (kr_bd R g) (nI r)) (12 + 5 * g) (kr_bd R g) 2) (9 + 5 * g) 7 (nI (kr_bd R g + 1))) k = C k := fun k h1 h2 h3 h4 h5 h6 => by unfold kx_bn; rw [kb_up_ne _ _ _ h3, kb_up_ne _ _ _ h6, kb_up_ne _ _ _ h5, kb_up_ne _ _ _ h4, kb_ro_ne _ _ h2, kb_up_ne _ _ _ h1]
        have n9 : ∀ d, d < 2 → (kb_up (kb_up (kb_up (kb_up (kx_bn C b r (nI (2 + g))) (10 + 5 * g) (kr_bd R g) (nI b)) (11 + 5 * g) (kr_bd R g) (nI r)) (12 + 5 * g) (kr_bd R g) 2) (9 + 5 * g) 7 (nI (kr_bd R g + 1))) (9 + 5 * d) 0 = C (9 + 5 * d) 0 := by
          intro d hd
          by_cases hdg : d = g
          · subst hdg
            rw [kb_up_at, pk_un (by decide)]
            unfold kx_bn
            rw [kb_up_ne _ _ _ (by omega), kb_up_ne _ _ _ (by omega), kb_up_ne _ _ _ (by omega), kb_ro_ne _ _ (by omega), kb_up_ne _ _ _ (by omega)]
          · rw [ne _ (by omega) (by omega) (by omega) (by omega) (by omega) (by omega)]
        exact kv_same h J T' (by rw [ne 1 (by omega) (by omega) (by omega) (by omega) (by omega) (by omega)]) (ne 3 (by omega) (by omega) (by omega) (by omega) (by omega) (by omega)) (ne 6 (by omega) (by omega) (by omega) (by omega) (by omega) (by omega)) (n9 0 (by decide)) (n9 1 (by decide)) (ne 19 (by omega) (by omega) (by omega) (by omega) (by omega) (by omega)) (ne 26 (by omega) (by omega) (by omega) (by omega) (by omega) (by omega)) (eR 33 (by decide) (by decide) (by decide) (by decide)) (eR 40 (by decide) (by decide) (by decide) (by decide))
      subst hc
      match g, hg with
      | 0, _ => exact kb_E_to T (And.intro rfl ⟨rfl, hV⟩)
      | 1, _ => exact kb_E_to T (And.intro rfl ⟨rfl, hV⟩)
    · cases e
      rw [kr_c_g hg] at f2
      rw [if_pos f1, if_pos f2]
      refine And.intro (fun _ => And.intro rfl ⟨rfl, h⟩) (fun h => absurd h (by decide))
    · dsimp only at q1 q2 q3
      subst q1
      rw [kr_c_g hg] at f2
      rw [if_pos f1, if_neg (by omega)]
      refine And.intro (fun _ => And.intro rfl ⟨rfl, kz_wi h q2 q3⟩) (fun h => absurd h (by decide))
  refine kb_go 40 [19] ?_
  refine kb_E_to (ck_guestOf C hg) ?_
  by_cases h60 : kr_bd R g = 60
  · rw [if_pos h60] at A
    have e : kr_bind R g b = (some (.inl (-1)), R) := by unfold kr_bind; rw [if_pos h60]
    rw [e]
    match g, hg with
    | 0, _ =>
      refine kb_E_to A ?_
      exact And.intro (fun h => absurd h (by decide)) (fun _ => And.intro rfl ⟨rfl, h⟩)
    | 1, _ =>
      refine kb_E_to A ?_
      exact And.intro (fun h => absurd h (by decide)) (fun _ => And.intro rfl ⟨rfl, h⟩)
  · rw [if_neg h60] at A
    have F := fin h60 _ rfl
    match g, hg with
    | 0, _ =>
      refine kb_E_to A ?_
      exact And.intro (fun _ => F) (fun h => absurd h (by decide))
    | 1, _ =>
      refine kb_E_to A ?_
      exact And.intro (fun _ => F) (fun h => absurd h (by decide))
end
section
/-! bind and pass as the law calls them; what an application does when it must wait -/
set_option maxRecDepth 100000 in
theorem op_bind {N : Nat} {C R : kb_M} (h : ki_V N C R) (hN : N ≤ 600) {g b : Nat} (hg : g < 2) (hb : b < 2) : kb_E (kb_en kz_BK_bind [.inr (some 0), .inl (nI (2 + g)), .inl (nI b)] C) (fun q => q.1 = (kr_bind R g b).1 ∧ ki_V N q.2 (kr_bind R g b).2) := by
  refine kb_go 20 [] ?_
  refine kb_E_then (op_bindG h hN hg hb) (fun v M hq => ?_)
  have hv : ∃ y, (kr_bind R g b).1 = some (.inl y) := by
    unfold kr_bind
    split
    · exact ⟨_, rfl⟩
    · split
      · split
        · exact ⟨_, rfl⟩
        · exact ⟨_, rfl⟩
      · exact ⟨_, rfl⟩
  obtain ⟨y, hy⟩ := hv
  obtain ⟨q1, q2⟩ := hq
  dsimp only at q1 q2
  rw [hy] at q1 ⊢
  subst q1
  exact And.intro rfl ⟨rfl, q2⟩
set_option maxRecDepth 100000 in
theorem op_bind_no {C : kb_M} {u : Int32} (hu : ¬ (2 ≤ u ∧ u ≤ 3)) (b : Int32) : kb_E (kb_en kz_BK_bind [.inr (some 0), .inl u, .inl b] C) (fun q => q = (some (.inl (-1)), C)) := by
  have K : kb_E (kb_en kz_Kernel_bindForGuest [.inr (some 1), .inl u, .inl b] C) (fun q => q = (some (.inl (-1)), C)) := by
    refine kb_go 20 [] ?_
    refine kb_E_to (ck_guestOf_no C hu) ?_
    exact And.intro rfl rfl
  refine kb_go 20 [] ?_
  exact kb_E_to K (And.intro rfl rfl)
theorem kr_mv_rows (R : kb_M) (t : Int32) : kr_mv R t 33 0 = t ∧ kr_mv R t 33 1 = R 33 1 ∧ kr_mv R t 33 2 = R 33 2 ∧ kr_mv R t 40 0 = R 40 0 + nI (kr_k R t 0 (kr_bd R 0)) := by
  have e33 : kr_mv R t 33 = upd (R 33) 0 t := by
    unfold kr_mv kr_m0
    rw [kr_mg_ne _ _ _ _ (by decide) (by decide), kr_mg_ne _ _ _ _ (by decide) (by decide), kb_up_at]
  have e0 : kr_k (kb_up R 33 0 t) t 0 (kr_bd R 0) = kr_k R t 0 (kr_bd R 0) := kr_k_eq _ (fun j _ _ => ⟨by rw [kb_up_ne _ _ _ (by decide)], by rw [kb_up_ne _ _ _ (by decide)]⟩)
  refine ⟨by rw [e33]; exact pk_us, by rw [e33]; exact pk_un (by decide), by rw [e33]; exact pk_un (by decide), ?_⟩
  unfold kr_mv
  rw [kr_mg_40, pk_un (by decide)]
  unfold kr_m0
  rw [kr_mg_40, pk_us, e0, kb_up_ne _ _ _ (by decide)]
theorem kr_mv_40 {R : kb_M} (hR : kr_ok R) (t : Int32) : kr_mv R t 40 1 = R 40 1 + nI (kr_k R t 1 (kr_bd R 1)) := by
  have e1 : kr_k (kr_m0 R t) t 1 (kr_bd R 1) = kr_k R t 1 (kr_bd R 1) := kr_k_eq _ (fun j h1 _ => ⟨by unfold kr_m0; rw [kr_mg_42, if_neg (by have := (hR.1 0 (by decide)).2; omega), kb_up_ne _ _ _ (by decide)], by unfold kr_m0; rw [kr_mg_ne _ _ _ _ (by decide) (by decide), kb_up_ne _ _ _ (by decide)]⟩)
  unfold kr_mv
  rw [kr_mg_40, pk_us, e1]
  unfold kr_m0
  rw [kr_mg_40, pk_un (by decide), kb_up_ne _ _ _ (by decide)]
/-- a ticket after the time has moved -/
theorem kr_mv_42 {R : kb_M} (hR : kr_ok R) (t : Int32) {g u : Nat} (hg : g < 2) (hu : u < kr_bd R g) : kr_mv R t 42 (60 * g + u) = if R 42 (60 * g + u) = 3 ∧ R 43 (60 * g + u) ≤ t then 1 else R 42 (60 * g + u) := by
  have h0 := (hR.1 0 (by decide)).2
  have h1 := (hR.1 1 (by decide)).2
  unfold kr_mv
  rw [kr_mg_42]
  have m42 : ∀ j, (kr_m0 R t) 42 j = if 60 * 0 ≤ j ∧ j < 60 * 0 + kr_bd R 0 ∧ R 42 j = 3 ∧ R 43 j ≤ t then 1 else R 42 j := by
    intro j
    unfold kr_m0
    rw [kr_mg_42, kb_up_ne _ _ _ (show (42 : Nat) ≠ 33 by decide), kb_up_ne _ _ _ (show (43 : Nat) ≠ 33 by decide)]
  have m43 : (kr_m0 R t) 43 = R 43 := by
    unfold kr_m0
    rw [kr_mg_ne _ _ _ _ (by decide) (by decide), kb_up_ne _ _ _ (by decide)]
  rw [m43, m42]
  match g, hg with
  | 0, _ =>
    rw [if_neg (by omega)]
    by_cases hc : R 42 (60 * 0 + u) = 3 ∧ R 43 (60 * 0 + u) ≤ t
    · rw [if_pos ⟨by omega, by omega, hc⟩, if_pos hc]
    · rw [if_neg (fun q => hc q.2.2), if_neg hc]
  | 1, _ =>
    have e : (if 60 * 0 ≤ 60 * 1 + u ∧ 60 * 1 + u < 60 * 0 + kr_bd R 0 ∧ R 42 (60 * 1 + u) = 3 ∧ R 43 (60 * 1 + u) ≤ t then (1 : Int32) else R 42 (60 * 1 + u)) = R 42 (60 * 1 + u) := if_neg (by omega)
    rw [e]
    by_cases hc : R 42 (60 * 1 + u) = 3 ∧ R 43 (60 * 1 + u) ≤ t
    · rw [if_pos ⟨by omega, by omega, hc⟩, if_pos hc]
    · rw [if_neg (fun q => hc q.2.2), if_neg hc]
theorem ku_mv {B n m : Nat} {R : kb_M} (hR : kr_ok R) (h1 : R 33 0 = nI n) (h3 : ∀ g t, g < 2 → t < kr_bd R g → R 42 (60 * g + t) = 3 → ∃ d, R 43 (60 * g + t) = nI d ∧ n < d ∧ d ≤ n + 5) (hm : n ≤ m) (hB : m ≤ B) (hB2 : B < 2 ^ 30) : ki_U B (kr_mv R (nI m)) := by
  refine ⟨m, (kr_mv_rows R (nI m)).1, hB, fun g t hg ht hs => ?_⟩
  have e39 : kr_mv R (nI m) 39 = R 39 := kr_mv_ne R _ (by decide) (by decide) (by decide)
  have e43 : kr_mv R (nI m) 43 = R 43 := kr_mv_ne R _ (by decide) (by decide) (by decide)
  unfold kr_bd at ht
  rw [e39] at ht
  rw [kr_mv_42 hR _ hg ht] at hs
  rw [e43]
  by_cases hc : R 42 (60 * g + t) = 3 ∧ R 43 (60 * g + t) ≤ nI m
  · rw [if_pos hc] at hs
    exact absurd hs (by decide)
  · rw [if_neg hc] at hs
    obtain ⟨d, d1, d2, d3⟩ := h3 g t hg ht hs
    refine ⟨d, d1, ?_, by omega⟩
    have h4 : ¬ R 43 (60 * g + t) ≤ nI m := fun q => hc ⟨hs, q⟩
    rw [d1, nI_leI (by omega) (by omega)] at h4
    omega
/-- what moveTimeTo leaves, as ck_moveTimeTo says it, ties again -/
theorem kz_mv {N B B' n m : Nat} {C D R : kb_M} (h : ki_Z N B C R) (h1 : R 33 0 = nI n) (h3 : ∀ g t, g < 2 → t < kr_bd R g → R 42 (60 * g + t) = 3 → ∃ d, R 43 (60 * g + t) = nI d ∧ n < d ∧ d ≤ n + 5) (hm : n ≤ m) (hB : m ≤ B') (hB2 : B' < 2 ^ 30) (J : ki_J N D (kr_mv R (nI m))) (d0 : ∀ k, k ≠ 1 → k ≠ 4 → k ≠ 7 → k ≠ 9 → k ≠ 14 → k ≠ 12 → k ≠ 17 → D k = C k) (d1 : D 1 = upd (C 1) 0 (nI m)) (d9 : D 9 = upd (C 9) 0 (C 9 0 + nI (kr_k R (nI m) 0 (kr_bd R 0)))) (d14 : D 14 = upd (C 14) 0 (C 14 0 + nI (kr_k R (nI m) 1 (kr_bd R 1)))) : ki_Z N B' D (kr_mv R (nI m)) := by
  obtain ⟨hJ, -, ⟨k1, k2, k3, k4, k5⟩, hL, ⟨x1, x2⟩⟩ := h
  obtain ⟨r0, r1, r2, r3⟩ := kr_mv_rows R (nI m)
  have e3 := d0 3 (by decide) (by decide) (by decide) (by decide) (by decide) (by decide) (by decide)
  have e6 := d0 6 (by decide) (by decide) (by decide) (by decide) (by decide) (by decide) (by decide)
  have e19 := d0 19 (by decide) (by decide) (by decide) (by decide) (by decide) (by decide) (by decide)
  have e26 := d0 26 (by decide) (by decide) (by decide) (by decide) (by decide) (by decide) (by decide)
  refine ⟨J, ku_mv hJ.1 h1 h3 hm hB hB2, ⟨by rw [d1, r0]; exact pk_us, by rw [e3]; exact k2, by rw [e6]; exact k3, by rw [e19]; exact k4, by rw [e26]; exact k5⟩, fun g hg => ?_, by rw [e19, e26, r2]; exact x1, by rw [e19, e26, r1]; exact x2⟩
  match g, hg with
  | 0, _ =>
    show D 9 0 = _
    rw [d9, r3, ← hL 0 (by decide)]
    exact pk_us
  | 1, _ =>
    show D 14 0 = _
    rw [d14, kr_mv_40 hJ.1, ← hL 1 (by decide)]
    exact pk_us
def kr_pass (R : kb_M) (n : Int32) : kb_R := if 1 ≤ n ∧ n ≤ 50 then (some (.inl (nI (kr_k R (R 33 0 + n) 0 (kr_bd R 0) + kr_k R (R 33 0 + n) 1 (kr_bd R 1)))), kr_mv R (R 33 0 + n)) else (some (.inl (-1)), R)
theorem kv_up {N : Nat} {C R : kb_M} (h : ki_V N C R) : ki_V (N + 1) C R := by
  obtain ⟨⟨hR, hst, hH, hN, hG, hA⟩, ⟨n, n1, n2, n3⟩, hK, hL, hX⟩ := h
  refine ⟨⟨hR, hst, hH, hN, hG, fun a ha => ?_⟩, ⟨n, n1, by omega, n3⟩, hK, hL, hX⟩
  obtain ⟨a1, ⟨u, u1, u2⟩, a3, a4, a5⟩ := hA a ha
  exact ⟨a1, ⟨u, u1, by omega⟩, a3, a4, a5⟩
set_option maxRecDepth 100000 in
theorem op_pass {N : Nat} {C R : kb_M} (h : ki_V N C R) (hN : N ≤ 600) (n : Int32) : kb_E (kb_en kz_BK_pass [.inr (some 0), .inl n] C) (fun q => q.1 = (kr_pass R n).1 ∧ ki_V (N + 1) q.2 (kr_pass R n).2) := by
  unfold kr_pass
  by_cases hn : 1 ≤ n ∧ n ≤ 50
  · rw [if_pos hn]
    have h0 : ¬ n < 0 := fun q => by
      have : (1 : Int32) < 0 := Int32.lt_of_le_of_lt hn.1 q
      exact absurd this (by decide)
    obtain ⟨k, hk, rfl⟩ := nI_of h0
    have k50 : k ≤ 50 := (nI_leI hk (by omega)).mp (show nI k ≤ nI 50 from hn.2)
    have k1 : 1 ≤ k := (nI_leI (a := 1) (by omega) hk).mp (show nI 1 ≤ nI k from hn.1)
    have h' := kv_up h
    obtain ⟨m, m1, m2, m3⟩ := h.2.1
    have et : R 33 0 + nI k = nI (m + k) := by rw [m1, nI_add]
    have ec : C 1 0 + nI k = nI (m + k) := by rw [h.2.2.1.1, et]
    rw [et]
    have MV := ck_moveTimeTo h'.1 (nI (m + k))
    refine kb_go 40 [] ?_
    refine And.intro (fun h => ?_) (fun _ => ?_)
    · have h : nI k < 1 := of_decide_eq_true h
      exact absurd hn.1 (Int32.not_le.mpr h)
    · refine And.intro (fun h => ?_) (fun _ => ?_)
      · have h : 50 < nI k := of_decide_eq_true h
        exact absurd hn.2 (Int32.not_le.mpr h)
      · show kb_E (kb_en kz_Kernel_moveTimeTo [.inr (some 1), .inl (C 1 0 + nI k)] C) _
        rw [ec]
        refine kb_E_then MV (fun v M hq => ?_)
        obtain ⟨q1, q2, q3, q4, q5, q6⟩ := hq
        dsimp only at q1 q2 q3 q4 q5 q6
        subst q1
        exact And.intro rfl ⟨rfl, kz_mv (B := 55 * (N + 1)) h' m1 m3 (by omega) (by omega) (by omega) q2 q3 q4 q5 q6⟩
  · rw [if_neg hn]
    refine kb_go 40 [] ?_
    refine And.intro (fun _ => And.intro rfl ⟨rfl, kv_up h⟩) (fun h1 => ?_)
    have h1 : ¬ n < 1 := of_decide_eq_false h1
    refine And.intro (fun _ => And.intro rfl ⟨rfl, kv_up h⟩) (fun h2 => ?_)
    have h2 : ¬ 50 < n := of_decide_eq_false h2
    exact absurd ⟨Int32.not_lt.mp h1, Int32.not_lt.mp h2⟩ hn
end
section
/-! an application that must wait gets what it waits for -/
theorem kr_e1_ex {R : kb_M} {g : Nat} {b y : Int32} : ∀ n, kr_e1 R g b y n = y ∨ ∃ t, t < n ∧ R 42 (60 * g + t) = 3 ∧ R 41 (60 * g + t) = b ∧ R 43 (60 * g + t) = kr_e1 R g b y n := by
  intro n
  induction n with
  | zero => exact Or.inl rfl
  | succ n ih =>
    unfold kr_e1
    by_cases hc : R 42 (60 * g + n) = 3 ∧ R 41 (60 * g + n) = b ∧ (kr_e1 R g b y n < 0 ∨ R 43 (60 * g + n) < kr_e1 R g b y n)
    · rw [if_pos hc]
      exact Or.inr ⟨n, by omega, hc.1, hc.2.1, rfl⟩
    · rw [if_neg hc]
      rcases ih with h | ⟨t, h1, h2, h3, h4⟩
      · exact Or.inl h
      · exact Or.inr ⟨t, by omega, h2, h3, h4⟩
theorem kr_e1_no {R : kb_M} {g : Nat} {b y : Int32} : ∀ n, (∀ t, t < n → R 42 (60 * g + t) = 3 → ¬ R 43 (60 * g + t) < 0) → kr_e1 R g b y n < 0 → y < 0 ∧ ∀ t, t < n → ¬ (R 42 (60 * g + t) = 3 ∧ R 41 (60 * g + t) = b) := by
  intro n
  induction n with
  | zero => intro _ h; exact ⟨h, fun t ht => by omega⟩
  | succ n ih =>
    intro hd h
    unfold kr_e1 at h
    by_cases hc : R 42 (60 * g + n) = 3 ∧ R 41 (60 * g + n) = b ∧ (kr_e1 R g b y n < 0 ∨ R 43 (60 * g + n) < kr_e1 R g b y n)
    · rw [if_pos hc] at h
      exact absurd h (hd n (by omega) hc.1)
    · rw [if_neg hc] at h
      obtain ⟨h1, h2⟩ := ih (fun t ht => hd t (by omega)) h
      refine ⟨h1, fun t ht q => ?_⟩
      by_cases htn : t = n
      · subst htn
        exact hc ⟨q.1, q.2, Or.inl h⟩
      · exact h2 t (by omega) q
theorem kr_l_mono {R S : kb_M} {g : Nat} {b : Int32} : ∀ n, (∀ t, t < n → S 41 (60 * g + t) = R 41 (60 * g + t) ∧ (2 ≤ S 42 (60 * g + t) → 2 ≤ R 42 (60 * g + t))) → kr_l S g b n ≤ kr_l R g b n := by
  intro n
  induction n with
  | zero => intro _; exact Nat.le_refl _
  | succ n ih =>
    intro h
    have h1 := ih (fun t ht => h t (by omega))
    obtain ⟨h2, h3⟩ := h n (by omega)
    unfold kr_l
    rw [h2]
    by_cases hc : 2 ≤ S 42 (60 * g + n) ∧ R 41 (60 * g + n) = b
    · rw [if_pos hc, if_pos ⟨h3 hc.1, hc.2⟩]; omega
    · rw [if_neg hc]; omega
theorem kr_l_less {R S : kb_M} {g t : Nat} {b : Int32} : ∀ n, t < n → (∀ u, u < n → S 41 (60 * g + u) = R 41 (60 * g + u) ∧ (2 ≤ S 42 (60 * g + u) → 2 ≤ R 42 (60 * g + u))) → 2 ≤ R 42 (60 * g + t) → R 41 (60 * g + t) = b → ¬ 2 ≤ S 42 (60 * g + t) → kr_l S g b n < kr_l R g b n := by
  intro n
  induction n with
  | zero => intro h; omega
  | succ n ih =>
    intro ht h hl hk hs
    by_cases htn : t = n
    · subst htn
      have h1 := kr_l_mono (R := R) (S := S) (g := g) (b := b) t (fun u hu => h u (by omega))
      unfold kr_l
      rw [if_neg (fun q => hs q.1), if_pos ⟨hl, hk⟩]
      omega
    · have h1 := ih (by omega) (fun u hu => h u (by omega)) hl hk hs
      obtain ⟨h2, h3⟩ := h n (by omega)
      unfold kr_l
      rw [h2]
      by_cases hc : 2 ≤ S 42 (60 * g + n) ∧ R 41 (60 * g + n) = b
      · rw [if_pos hc, if_pos ⟨h3 hc.1, hc.2⟩]; omega
      · rw [if_neg hc]; omega
theorem kr_l_pos {R : kb_M} {g : Nat} {b : Int32} : ∀ n, 0 < kr_l R g b n → ∃ t, t < n ∧ 2 ≤ R 42 (60 * g + t) ∧ R 41 (60 * g + t) = b := by
  intro n
  induction n with
  | zero => intro h; exact absurd h (by unfold kr_l; omega)
  | succ n ih =>
    intro h
    unfold kr_l at h
    by_cases hc : 2 ≤ R 42 (60 * g + n) ∧ R 41 (60 * g + n) = b
    · exact ⟨n, by omega, hc⟩
    · rw [if_neg hc] at h
      obtain ⟨t, h1, h2⟩ := ih (by omega)
      exact ⟨t, by omega, h2⟩
theorem kr_la_some {R : kb_M} {g t : Nat} {b : Int32} : ∀ n, t < n → R 42 (60 * g + t) = 2 → R 41 (60 * g + t) = b → ∃ u, kr_la R g b n = some u := by
  intro n
  induction n with
  | zero => intro h; omega
  | succ n ih =>
    intro ht h1 h2
    unfold kr_la
    by_cases hc : R 42 (60 * g + n) = 2 ∧ R 41 (60 * g + n) = b
    · rw [if_pos hc]; exact ⟨n, rfl⟩
    · rw [if_neg hc]
      refine ih ?_ h1 h2
      by_cases htn : t = n
      · subst htn; exact absurd ⟨h1, h2⟩ hc
      · omega
/-- all that is counted adds up -/
theorem kx_all {N : Nat} {C R : kb_M} (h : ki_J N C R) {b : Nat} (hb : b < 2) (hn : ∀ r, r < 12 + 12 * b → C (4 + 3 * b) r ≠ -1) : kr_c R 0 b + kr_c R 1 b + kr_l R 0 (nI b) (kr_bd R 0) + kr_l R 1 (nI b) (kr_bd R 1) = 12 + 12 * b := by
  have hN := h.2.2.2.1 b hb
  have hs := kp_c_sum (12 + 12 * b) (h.2.2.1 b hb)
  have n0 := hN 0 (by decide)
  have n1 := hN 1 (by decide)
  have n2 := hN (2 + 0) (by decide)
  have n3 := hN (2 + 1) (by decide)
  rw [kr_c_g (g := 0) (by decide)] at n2
  rw [kr_c_g (g := 1) (by decide)] at n3
  rw [kp_c_0 _ hn] at hs
  have e2 : kp_c (C (4 + 3 * b)) (nI 2) (12 + 12 * b) = kp_c (C (4 + 3 * b)) (nI (2 + 0)) (12 + 12 * b) := rfl
  have e3 : kp_c (C (4 + 3 * b)) (nI 3) (12 + 12 * b) = kp_c (C (4 + 3 * b)) (nI (2 + 1)) (12 + 12 * b) := rfl
  omega
theorem kx_share {N : Nat} {C R : kb_M} (h : ki_J N C R) {a b : Nat} (ha : a < 2) (hb : b < 2) : kr_c R a b ≤ 3 + 3 * b := by
  unfold kr_c
  rw [if_pos ha]
  match b, hb with
  | 0, _ => rw [if_pos rfl]; exact (h.1.2.2.1 a ha).2
  | 1, _ => rw [if_neg (by decide)]; exact (h.2.2.2.2.2 a ha).1.2
/-- after a wish something is asked for -/
theorem kx_asked {N B : Nat} {C D R : kb_M} (h : ki_Z N B C R) (hB : B + 5 < 2 ^ 30) {a b : Nat} (ha : a < 2) (hb : b < 2) (hsh : kr_c R a b < 3 + 3 * b) (hn : ∀ r, r < 12 + 12 * b → C (4 + 3 * b) r ≠ -1) : ∃ g t d, d < 2 ^ 30 ∧ g < 2 ∧ t < kr_bd (kr_wi R (nI b)) g ∧ (kr_wi R (nI b)) 42 (60 * g + t) = 3 ∧ (kr_wi R (nI b)) 41 (60 * g + t) = nI b ∧ (kr_wi R (nI b)) 43 (60 * g + t) = nI d ∧ kr_e (kr_wi R (nI b)) (nI b) = nI d := by
  have hJ := h.1
  have hU := ku_wi h.2.1 (nI b)
  obtain ⟨n, n1, n2, n3⟩ := hU
  have hR' := kr_wi_ok hJ.1 (nI b)
  have dl : ∀ g t, g < 2 → t < kr_bd (kr_wi R (nI b)) g → (kr_wi R (nI b)) 42 (60 * g + t) = 3 → ¬ (kr_wi R (nI b)) 43 (60 * g + t) < 0 := by
    intro g t hg ht hs
    obtain ⟨d, d1, d2, d3⟩ := n3 g t hg ht hs
    rw [d1]
    exact nI_pos (by omega)
  -- it is not below 0
  have hpos : ¬ kr_e (kr_wi R (nI b)) (nI b) < 0 := by
    intro hneg
    have q1 := kr_e1_no (kr_bd (kr_wi R (nI b)) 1) (fun t ht hs => dl 1 t (by decide) ht hs) hneg
    have q0 := kr_e1_no (kr_bd (kr_wi R (nI b)) 0) (fun t ht hs => dl 0 t (by decide) ht hs) q1.1
    have none_ : ∀ g t, g < 2 → t < kr_bd (kr_wi R (nI b)) g → ¬ ((kr_wi R (nI b)) 42 (60 * g + t) = 3 ∧ (kr_wi R (nI b)) 41 (60 * g + t) = nI b) := by
      intro g t hg ht
      match g, hg with
      | 0, _ => exact q0.2 t ht
      | 1, _ => exact q1.2 t ht
    have hbd : ∀ g, kr_bd (kr_wi R (nI b)) g = kr_bd R g := fun g => by unfold kr_bd; rw [kr_wi_ne R _ (by decide) (by decide)]
    have hall := kx_all hJ hb hn
    have s0 := kx_share hJ (a := 0) (by decide) hb
    have s1 := kx_share hJ (a := 1) (by decide) hb
    have hri : kr_ri R (nI b) < 2 := by unfold kr_ri; split <;> omega
    have hl : 0 < kr_l R (kr_ri R (nI b)) (nI b) (kr_bd R (kr_ri R (nI b))) := by
      have hsum : 0 < kr_l R 0 (nI b) (kr_bd R 0) + kr_l R 1 (nI b) (kr_bd R 1) := by
        have : a = 0 ∨ a = 1 := by omega
        rcases this with rfl | rfl <;> omega
      unfold kr_ri
      by_cases hc : kr_l R 0 (nI b) (kr_bd R 0) < kr_l R 1 (nI b) (kr_bd R 1)
      · rw [if_pos hc]; omega
      · rw [if_neg hc]; omega
    by_cases he : kr_e R (nI b) < 0
    · -- a ticket was asked for by the wish
      obtain ⟨t, t1, t2, t3⟩ := kr_l_pos _ hl
      obtain ⟨-, -, n3'⟩ := h.2.1
      have dl' : ∀ g t, g < 2 → t < kr_bd R g → R 42 (60 * g + t) = 3 → ¬ R 43 (60 * g + t) < 0 := by
        obtain ⟨m, m1, m2, m3⟩ := h.2.1
        intro g t hg ht hs
        obtain ⟨d, d1, d2, d3⟩ := m3 g t hg ht hs
        rw [d1]
        exact nI_pos (by omega)
      have p1 := kr_e1_no (kr_bd R 1) (fun t ht hs => dl' 1 t (by decide) ht hs) he
      have p0 := kr_e1_no (kr_bd R 0) (fun t ht hs => dl' 0 t (by decide) ht hs) p1.1
      have hle := (hJ.1.1 _ hri).2
      have h2 : R 42 (60 * kr_ri R (nI b) + t) = 2 := by
        obtain ⟨s, s1, s2⟩ := hJ.2.1 (60 * kr_ri R (nI b) + t) (by omega)
        rw [s2, kr_2 (by omega)] at t2
        have : s ≠ 3 := by
          intro q
          have h3 : R 42 (60 * kr_ri R (nI b) + t) = 3 := by rw [s2, q]; rfl
          have hc : kr_ri R (nI b) = 0 ∨ kr_ri R (nI b) = 1 := by omega
          rcases hc with hc | hc
          · rw [hc] at h3 t3 t1; exact p0.2 t t1 ⟨h3, t3⟩
          · rw [hc] at h3 t3 t1; exact p1.2 t t1 ⟨h3, t3⟩
        have : s = 2 := by omega
        rw [s2, this]; rfl
      obtain ⟨u, hu⟩ := kr_la_some (kr_bd R (kr_ri R (nI b))) t1 h2 t3
      have hw : kr_wi R (nI b) = kr_mk R (60 * kr_ri R (nI b) + u) := by unfold kr_wi; rw [if_pos he, hu]
      obtain ⟨u1, u2, u3⟩ := kr_la_lt hu
      refine none_ (kr_ri R (nI b)) u hri (by rw [hbd]; exact u1) ⟨?_, ?_⟩
      · rw [hw]; unfold kr_mk; rw [kb_up_ne _ _ _ (by decide), kb_up_at]; exact pk_us
      · rw [hw]; unfold kr_mk; rw [kb_up_ne _ _ _ (by decide), kb_up_ne _ _ _ (by decide)]; exact u3
    · have hw : kr_wi R (nI b) = R := by unfold kr_wi; rw [if_neg he]
      rw [hw] at hneg
      exact he hneg
  have hx := kr_e1_ex (R := kr_wi R (nI b)) (g := 1) (b := nI b) (y := kr_e1 (kr_wi R (nI b)) 0 (nI b) (-1) (kr_bd (kr_wi R (nI b)) 0)) (kr_bd (kr_wi R (nI b)) 1)
  have ee : kr_e1 (kr_wi R (nI b)) 1 (nI b) (kr_e1 (kr_wi R (nI b)) 0 (nI b) (-1) (kr_bd (kr_wi R (nI b)) 0)) (kr_bd (kr_wi R (nI b)) 1) = kr_e (kr_wi R (nI b)) (nI b) := rfl
  rw [ee] at hx
  rcases hx with h1 | ⟨t, t1, t2, t3, t4⟩
  · rcases kr_e1_ex (R := kr_wi R (nI b)) (g := 0) (b := nI b) (y := -1) (kr_bd (kr_wi R (nI b)) 0) with h0 | ⟨t, t1, t2, t3, t4⟩
    · rw [h0] at h1
      rw [h1] at hpos
      exact absurd (by decide) hpos
    · obtain ⟨d, d1, d2, d3⟩ := n3 0 t (by decide) t1 t2
      exact ⟨0, t, d, by omega, by decide, t1, t2, t3, d1, by rw [h1, ← t4]; exact d1⟩
  · obtain ⟨d, d1, d2, d3⟩ := n3 1 t (by decide) t1 t2
    exact ⟨1, t, d, by omega, by decide, t1, t2, t3, d1, by rw [← t4]; exact d1⟩
/-- when the time has moved there, something of the kind is free -/
theorem kx_freed {N : Nat} {D E S : kb_M} (hS : ki_J N E S) {b : Nat} (hb : b < 2) (hE : ∀ r, r < 12 + 12 * b → E (4 + 3 * b) r ≠ -1) {t : Int32} {g u : Nat} (hg : g < 2) (hu : u < kr_bd S g) (h3 : S 42 (60 * g + u) = 3) (hk : S 41 (60 * g + u) = nI b) (hd : S 43 (60 * g + u) ≤ t) (hD : ki_J N D (kr_mv S t)) (hn : ∀ r, r < 12 + 12 * b → D (4 + 3 * b) r ≠ -1) : False := by
  have a1 := kx_all hS hb hE
  have a2 := kx_all hD hb hn
  have e35 : kr_mv S t 35 = S 35 := kr_mv_ne S t (by decide) (by decide) (by decide)
  have e38 : kr_mv S t 38 = S 38 := kr_mv_ne S t (by decide) (by decide) (by decide)
  have e39 : kr_mv S t 39 = S 39 := kr_mv_ne S t (by decide) (by decide) (by decide)
  have e41 : kr_mv S t 41 = S 41 := kr_mv_ne S t (by decide) (by decide) (by decide)
  have hbd : ∀ g, kr_bd (kr_mv S t) g = kr_bd S g := fun g => by unfold kr_bd; rw [e39]
  rw [kr_c_app (R := S) e35 e38 (e := 0) (by decide), kr_c_app (R := S) e35 e38 (e := 1) (by decide), hbd, hbd] at a2
  have live : ∀ g u, g < 2 → u < kr_bd S g → (kr_mv S t) 41 (60 * g + u) = S 41 (60 * g + u) ∧ (2 ≤ (kr_mv S t) 42 (60 * g + u) → 2 ≤ S 42 (60 * g + u)) := by
    intro g u hg hu
    refine ⟨by rw [e41], fun q => ?_⟩
    rw [kr_mv_42 hS.1 t hg hu] at q
    by_cases hc : S 42 (60 * g + u) = 3 ∧ S 43 (60 * g + u) ≤ t
    · rw [hc.1]; decide
    · rw [if_neg hc] at q; exact q
  have m0 := kr_l_mono (R := S) (S := kr_mv S t) (g := 0) (b := nI b) (kr_bd S 0) (fun u hu => live 0 u (by decide) hu)
  have m1 := kr_l_mono (R := S) (S := kr_mv S t) (g := 1) (b := nI b) (kr_bd S 1) (fun u hu => live 1 u (by decide) hu)
  have dead : ¬ (2 : Int32) ≤ (kr_mv S t) 42 (60 * g + u) := by
    rw [kr_mv_42 hS.1 t hg hu, if_pos ⟨h3, hd⟩]
    decide
  have l := kr_l_less (R := S) (S := kr_mv S t) (g := g) (b := nI b) (kr_bd S g) hu (fun v hv => live g v hg hv) (by rw [h3]; decide) hk dead
  match g, hg with
  | 0, _ => omega
  | 1, _ => omega
end
section
/-! an application binds; its leaves in plain words -/
theorem ku_dl {B : Nat} {R : kb_M} (h : ki_U B R) (hB : B + 5 < 2 ^ 30) : kr_dl R := by
  obtain ⟨n, -, h2, h3⟩ := h
  intro g t hg ht hs
  obtain ⟨d, d1, d2, d3⟩ := h3 g t hg ht hs
  exact ⟨d, by omega, d1⟩
set_option maxRecDepth 100000 in
set_option maxHeartbeats 4000000 in
theorem ck_bindApp {N B : Nat} {C R : kb_M} (h : ki_Z N B C R) (hB : B + 10 < 2 ^ 30) {a b : Nat} (ha : a < 2) (hb : b < 2) (hsh : kr_c R a b < 3 + 3 * b) : kb_E (kb_en kz_Kernel_bindForApplication [.inr (some 1), .inl (nI a), .inl (nI b)] C) (fun q => ∃ r D, r < 12 + 12 * b ∧ D (4 + 3 * b) r = -1 ∧ ki_Z N (B + 5) D (kr_cm R b) ∧ (∀ k, k ≠ 1 → k ≠ 4 → k ≠ 7 → k ≠ 9 → k ≠ 12 → k ≠ 13 → k ≠ 14 → k ≠ 17 → k ≠ 18 → D k = C k) ∧ q = (some (.inl (nI r)), kx_bn D b r (nI a))) := by
  have up : ∀ D S, ki_Z N B D S → ki_Z N (B + 5) D S := by
    rintro D S ⟨h1, ⟨n, n1, n2, n3⟩, h3⟩
    exact ⟨h1, ⟨n, n1, by omega, n3⟩, h3⟩
  have CL := ck_claim h.1 h.2.2.1 (ku_dl h.2.1 (by omega)) hb (e := a) (by omega)
  refine kb_go 60 [] ?_
  refine kb_E_then CL (fun v M hq => ?_)
  rcases hq with ⟨r, r1, r2, e⟩ | ⟨f1, f2, e⟩ | ⟨f1, f2, q1, q2, q3⟩
  · cases e
    have hf := kx_some h.1 hb r1 r2
    have ecm : kr_cm R b = R := by unfold kr_cm; rw [if_neg hf]
    refine And.intro (fun _ => ?_) (fun h => ?_)
    · refine And.intro rfl ⟨r, C, r1, r2, by rw [ecm]; exact up _ _ h, fun _ _ _ _ _ _ _ _ _ _ => rfl, ?_⟩
      show (some (Sum.inl (if nI r < Int32.ofInt (-1) then Int32.ofInt (-1) else nI r)), _) = _
      rw [if_neg (fun q => nI_pos (n := r) (by omega) (Int32.lt_trans q (by decide)))]
    · have h : nI r = (Int8.ofInt (-3)).toInt32 := Classical.not_not.mp (of_decide_eq_false h)
      exact absurd (h ▸ nI_pos (n := r) (by omega) : ¬ (Int8.ofInt (-3)).toInt32 < 0) (by decide)
  · omega
  · dsimp only at q1 q2 q3
    subst q1
    refine And.intro (fun h => absurd h (by decide)) (fun _ => ?_)
    have hn : ∀ r, r < 12 + 12 * b → C (4 + 3 * b) r ≠ -1 := by
      intro r hr hc
      exact kx_some h.1 hb hr hc f1
    obtain ⟨g, u, d, hdd, g1, u1, u2, u3, u4, u5⟩ := kx_asked (D := C) h (by omega) ha hb hsh hn
    have hZ := kz_wi h q2 q3
    have ecm : kr_cm R b = kr_mv (kr_wi R (nI b)) (nI d) := by unfold kr_cm; rw [if_pos f1, u5]
    have E := ck_earliest q2 (ku_dl hZ.2.1 (by omega)) (b := b)
    refine kb_E_then E (fun v2 M2 hq2 => ?_)
    obtain ⟨k, hk, e2⟩ := hq2
    cases e2
    have hkd : k = d := by
      rcases hk with ⟨-, hk⟩ | ⟨hk1, hk2⟩
      · rw [u5] at hk
        exact absurd (hk ▸ nI_pos (n := d) (by omega) : ¬ (-1 : Int32) < 0) (by decide)
      · rw [u5, nI_eq (by omega) (by omega)] at hk2
        exact hk2.symm
    subst hkd
    refine kb_E_then (ck_moveTimeTo q2 (nI k)) (fun v3 M3 hq3 => ?_)
    obtain ⟨p1, p2, p3, p4, p5, p6⟩ := hq3
    dsimp only at p1 p2 p3 p4 p5 p6
    subst p1
    obtain ⟨m, m1, m2, m3⟩ := hZ.2.1
    obtain ⟨d', e1, e2, e3⟩ := m3 g u g1 u1 u2
    have hkd' : k = d' := (nI_eq (by omega) (by omega)).mp (u4.symm.trans e1)
    have hZ3 : ki_Z N (B + 5) M3 (kr_mv (kr_wi R (nI b)) (nI k)) := kz_mv (B := B) hZ m1 m3 (by omega) (by omega) (by omega) p2 p3 p4 p5 p6
    refine kb_E_to (ck_poolOf M3 hb) ?_
    have F := ck_free (C := M3) hb (nI a)
    have rows : ∀ k, k ≠ 1 → k ≠ 4 → k ≠ 7 → k ≠ 9 → k ≠ 12 → k ≠ 13 → k ≠ 14 → k ≠ 17 → k ≠ 18 → M3 k = C k := by
      intro k h1 h2 h3 h4 h5 h6 h7 h8 h9
      rw [p3 k h1 h2 h3 h4 h7 h5 h8, q3 k h5 h6 h8 h9]
    have step : kb_E (kb_en kz_Pool_bindFreeOne [.inr (some (3 + 3 * b)), .inl (nI a)] M3) (fun q => ∃ r, r < 12 + 12 * b ∧ M3 (4 + 3 * b) r = -1 ∧ q = (some (.inl (nI r)), kx_bn M3 b r (nI a))) := by
      refine kb_E_imp F (fun q hq => ?_)
      rcases hq with hq | ⟨hno, -⟩
      · exact hq
      · exact (kx_freed q2 hb (fun r hr => by rw [q3 (4 + 3 * b) (by omega) (by omega) (by omega) (by omega)]; exact hn r hr) g1 u1 u2 u3 (by rw [u4]; exact Int32.le_refl _) p2 hno).elim
    have last : ∀ r, r < 12 + 12 * b → (if nI r < Int32.ofInt (-1) then Int32.ofInt (-1) else nI r) = nI r := fun r hr => if_neg (fun q => nI_pos (n := r) (by omega) (Int32.lt_trans q (by decide)))
    have hb01 : b = 0 ∨ b = 1 := by omega
    rcases hb01 with rfl | rfl
    · refine kb_E_then step (fun v4 M4 hq4 => ?_)
      obtain ⟨r, r1, r2, e⟩ := hq4
      cases e
      refine And.intro rfl ⟨r, M3, r1, r2, by rw [ecm]; exact hZ3, rows, ?_⟩
      show (some (Sum.inl (if nI r < Int32.ofInt (-1) then Int32.ofInt (-1) else nI r)), _) = _
      rw [last r r1]
    · refine kb_E_then step (fun v4 M4 hq4 => ?_)
      obtain ⟨r, r1, r2, e⟩ := hq4
      cases e
      refine And.intro rfl ⟨r, M3, r1, r2, by rw [ecm]; exact hZ3, rows, ?_⟩
      show (some (Sum.inl (if nI r < Int32.ofInt (-1) then Int32.ofInt (-1) else nI r)), _) = _
      rw [last r r1]
end
section
/-! the application: its small methods in plain words. Application a is cell c = 19 + 7 a: c + 1 lengths, c + 2 blocks of parts, c + 4 .. c + 6 slots (0 frame, 1 part, 2 last use, 3 changed) -/
def kq_P (c : Nat) : Prop := c = 19 ∨ c = 26
theorem kq_in {a : Nat} (ha : a < 2) : kq_P (19 + 7 * a) := by
  match a, ha with
  | 0, _ => exact Or.inl rfl
  | 1, _ => exact Or.inr rfl
def kq_S (c z : Nat) : Prop := z = c + 4 ∨ z = c + 5 ∨ z = c + 6
theorem kq_s {c s : Nat} (hs : s < 3) : kq_S c (c + 4 + s) := by
  unfold kq_S
  omega
set_option maxRecDepth 100000 in
theorem cq_isEmpty {c z : Nat} (hc : kq_P c) (hz : kq_S c z) (C : kb_M) : kb_E (kb_en kz_Slot_isEmpty [.inr (some z)] C) (fun q => q = (some (.inl (if C z 0 = -1 then 1 else 0)), C)) := by
  rcases hc with rfl | rfl <;> rcases hz with rfl | rfl | rfl
  all_goals
    refine kb_go 20 [] ?_
    refine And.intro (fun h => ?_) (fun h => ?_)
    · have h : ¬ C _ 0 = -1 := of_decide_eq_true h
      rw [if_neg h]
      exact And.intro rfl rfl
    · have h : C _ 0 = -1 := Classical.not_not.mp (of_decide_eq_false h)
      rw [if_pos h]
      exact And.intro rfl rfl
/-- the slot in which part p lies -/
def ka_so (C : kb_M) (c : Nat) (p : Int32) : Option Nat := if C (c + 4) 1 = p then some (c + 4) else if C (c + 5) 1 = p then some (c + 5) else if C (c + 6) 1 = p then some (c + 6) else none
set_option maxRecDepth 100000 in
theorem cq_slotOf {c : Nat} (hc : kq_P c) (C : kb_M) (p : Int32) : kb_E (kb_en kz_App_slotOf [.inr (some c), .inl p] C) (fun q => q = (some (.inr (ka_so C c p)), C)) := by
  unfold ka_so
  rcases hc with rfl | rfl
  all_goals
    refine kb_go 100 [] ?_
    refine And.intro (fun h => absurd h (by decide)) (fun _ => And.intro rfl ?_)
    refine And.intro (fun h => ?_) (fun h => ?_)
    · have h := of_decide_eq_true h
      rw [if_neg h]
      refine And.intro (fun h => absurd h (by decide)) (fun _ => And.intro rfl ?_)
      refine And.intro (fun h => ?_) (fun h => ?_)
      · have h := of_decide_eq_true h
        rw [if_neg h]
        refine And.intro (fun h => absurd h (by decide)) (fun _ => And.intro rfl ?_)
        refine And.intro (fun h => ?_) (fun h => ?_)
        · have h := of_decide_eq_true h
          rw [if_neg h]
          exact And.intro (fun _ => And.intro rfl rfl) (fun h => absurd h (by decide))
        · have h := Classical.not_not.mp (of_decide_eq_false h)
          rw [if_pos h]
          exact And.intro rfl rfl
      · have h := Classical.not_not.mp (of_decide_eq_false h)
        rw [if_pos h]
        exact And.intro rfl rfl
    · have h := Classical.not_not.mp (of_decide_eq_false h)
      rw [if_pos h]
      exact And.intro rfl rfl
/-- the older of two -/
def ka_o1 (C : kb_M) (o : Option Nat) (z : Nat) : Option Nat := if C z 0 = -1 then o else match o with
  | none => some z
  | some y => if C y 2 ≤ C z 2 then some y else some z
def ka_old (C : kb_M) (c : Nat) : Option Nat := ka_o1 C (ka_o1 C (ka_o1 C none (c + 4)) (c + 5)) (c + 6)
set_option maxRecDepth 100000 in
set_option maxHeartbeats 4000000 in
theorem cq_oldStep {c i : Nat} {o : Option Nat} (hc : kq_P c) (hi : i = 0 ∨ i = 1 ∨ i = 2) (ho : o = none ∨ o = some (c + 4) ∨ o = some (c + 5)) {C : kb_M} {Q : kb_R → Prop} (x : Option kb_v) (K : ∀ x, kb_E (kz_App_oldestSlot, 13, [some (.inr (some c)), some (.inr (ka_o1 C o (c + 4 + i))), some (.inr (some (c + 3))), some (.inl 3), some (.inl (nI (i + 1))), x], [], C) Q) : kb_E (kz_App_oldestSlot, 13, [some (.inr (some c)), some (.inr o), some (.inr (some (c + 3))), some (.inl 3), some (.inl (nI i)), x], [], C) Q := by
  have E := cq_isEmpty (z := c + 4 + i) hc (by unfold kq_S; omega) C
  by_cases he : C (c + 4 + i) 0 = -1
  · rw [if_pos he] at E
    have e : ka_o1 C o (c + 4 + i) = o := by unfold ka_o1; rw [if_pos he]
    rw [e] at K
    rcases hc with rfl | rfl <;> rcases hi with rfl | rfl | rfl <;> rcases ho with rfl | rfl | rfl
    all_goals
      refine kb_go 60 [13] ?_
      refine And.intro (fun h => absurd h (by decide)) (fun _ => And.intro rfl ?_)
      refine kb_E_to E ?_
      exact And.intro (fun _ => K _) (fun h => absurd h (by decide))
  · rw [if_neg he] at E
    rcases ho with rfl | ho
    · have e : ka_o1 C none (c + 4 + i) = some (c + 4 + i) := by unfold ka_o1; rw [if_neg he]
      rw [e] at K
      rcases hc with rfl | rfl <;> rcases hi with rfl | rfl | rfl
      all_goals
        refine kb_go 60 [13] ?_
        refine And.intro (fun h => absurd h (by decide)) (fun _ => And.intro rfl ?_)
        refine kb_E_to E ?_
        exact And.intro (fun h => absurd h (by decide)) (fun _ => K _)
    · have e : ∀ y, o = some y → ka_o1 C o (c + 4 + i) = if C y 2 ≤ C (c + 4 + i) 2 then some y else some (c + 4 + i) := by
        intro y hy
        unfold ka_o1
        rw [if_neg he, hy]
      rcases hc with rfl | rfl <;> rcases hi with rfl | rfl | rfl <;> rcases ho with rfl | rfl
      all_goals
        rw [e _ rfl] at K
        refine kb_go 60 [13] ?_
        refine And.intro (fun h => absurd h (by decide)) (fun _ => And.intro rfl ?_)
        refine kb_E_to E ?_
        refine And.intro (fun h => absurd h (by decide)) (fun _ => ?_)
        refine And.intro (fun h => ?_) (fun h => ?_)
        · have h := of_decide_eq_true h
          rw [if_pos h] at K
          exact K _
        · have h := of_decide_eq_false h
          rw [if_neg h] at K
          exact K _
theorem ka_o1_in {C : kb_M} {c : Nat} {o : Option Nat} (ho : o = none ∨ o = some (c + 4)) : ka_o1 C o (c + 5) = none ∨ ka_o1 C o (c + 5) = some (c + 4) ∨ ka_o1 C o (c + 5) = some (c + 5) := by
  unfold ka_o1
  rcases ho with rfl | rfl
  · split
    · exact Or.inl rfl
    · exact Or.inr (Or.inr rfl)
  · split
    · exact Or.inr (Or.inl rfl)
    · show (if _ then _ else _) = _ ∨ (if _ then _ else _) = _ ∨ (if _ then _ else _) = _
      split
      · exact Or.inr (Or.inl rfl)
      · exact Or.inr (Or.inr rfl)
set_option maxRecDepth 100000 in
theorem cq_oldest {c : Nat} (hc : kq_P c) (C : kb_M) : kb_E (kb_en kz_App_oldestSlot [.inr (some c)] C) (fun q => q = (some (.inr (ka_old C c)), C)) := by
  have o1 : ka_o1 C none (c + 4) = none ∨ ka_o1 C none (c + 4) = some (c + 4) := by
    unfold ka_o1
    split
    · exact Or.inl rfl
    · exact Or.inr rfl
  have fin : ∀ x, kb_E (kz_App_oldestSlot, 13, [some (.inr (some c)), some (.inr (ka_old C c)), some (.inr (some (c + 3))), some (.inl 3), some (.inl (nI 3)), x], [], C) (fun q => q = (some (.inr (ka_old C c)), C)) := by
    intro x
    refine kb_go 20 [] ?_
    refine And.intro (fun _ => And.intro rfl rfl) (fun h => absurd h (by decide))
  have s2 := fun x => cq_oldStep (i := 2) (o := ka_o1 C (ka_o1 C none (c + 4)) (c + 5)) hc (Or.inr (Or.inr rfl)) (ka_o1_in o1) x fin
  have s1 := fun x => cq_oldStep (i := 1) (o := ka_o1 C none (c + 4)) hc (Or.inr (Or.inl rfl)) (o1.elim Or.inl (fun q => Or.inr (Or.inl q))) x s2
  have s0 := fun x => cq_oldStep (i := 0) (o := none) hc (Or.inl rfl) (Or.inl rfl) x s1
  rcases hc with rfl | rfl
  · exact kb_go 20 [13] (s0 none)
  · exact kb_go 20 [13] (s0 none)
/-- what the oldest is -/
theorem ka_old_spec (C : kb_M) (c : Nat) : (ka_old C c = none → ∀ s, s < 3 → C (c + 4 + s) 0 = -1) ∧ (∀ z, ka_old C c = some z → ∃ s, s < 3 ∧ z = c + 4 + s ∧ C z 0 ≠ -1 ∧ ∀ y, y < 3 → C (c + 4 + y) 0 ≠ -1 → C z 2 ≤ C (c + 4 + y) 2) := by
  have key : ∀ (o : Option Nat) (n : Nat), n < 3 → (o = none → ∀ s, s < n → C (c + 4 + s) 0 = -1) → (∀ z, o = some z → ∃ s, s < n ∧ z = c + 4 + s ∧ C z 0 ≠ -1 ∧ ∀ y, y < n → C (c + 4 + y) 0 ≠ -1 → C z 2 ≤ C (c + 4 + y) 2) → (ka_o1 C o (c + 4 + n) = none → ∀ s, s < n + 1 → C (c + 4 + s) 0 = -1) ∧ (∀ z, ka_o1 C o (c + 4 + n) = some z → ∃ s, s < n + 1 ∧ z = c + 4 + s ∧ C z 0 ≠ -1 ∧ ∀ y, y < n + 1 → C (c + 4 + y) 0 ≠ -1 → C z 2 ≤ C (c + 4 + y) 2) := by
    intro o n hn h1 h2
    unfold ka_o1
    by_cases he : C (c + 4 + n) 0 = -1
    · rw [if_pos he]
      refine ⟨fun ho s hs => ?_, fun z hz => ?_⟩
      · by_cases hsn : s = n
        · rw [hsn]; exact he
        · exact h1 ho s (by omega)
      · obtain ⟨s, s1, s2, s3, s4⟩ := h2 z hz
        refine ⟨s, by omega, s2, s3, fun y hy hne => ?_⟩
        by_cases hyn : y = n
        · rw [hyn] at hne; exact absurd he hne
        · exact s4 y (by omega) hne
    · rw [if_neg he]
      cases o with
      | none =>
        refine ⟨fun q => (by cases q), fun z hz => ?_⟩
        cases hz
        refine ⟨n, by omega, rfl, he, fun y hy hne => ?_⟩
        by_cases hyn : y = n
        · rw [hyn]; exact Int32.le_refl _
        · exact absurd (h1 rfl y (by omega)) hne
      | some z0 =>
        obtain ⟨s, s1, s2, s3, s4⟩ := h2 z0 rfl
        dsimp only
        by_cases hle : C z0 2 ≤ C (c + 4 + n) 2
        · rw [if_pos hle]
          refine ⟨fun q => (by cases q), fun z hz => ?_⟩
          cases hz
          refine ⟨s, by omega, s2, s3, fun y hy hne => ?_⟩
          by_cases hyn : y = n
          · rw [hyn]; exact hle
          · exact s4 y (by omega) hne
        · rw [if_neg hle]
          refine ⟨fun q => (by cases q), fun z hz => ?_⟩
          cases hz
          refine ⟨n, by omega, rfl, he, fun y hy hne => ?_⟩
          by_cases hyn : y = n
          · rw [hyn]; exact Int32.le_refl _
          · exact Int32.le_trans (Int32.le_of_lt (Int32.not_le.mp hle)) (s4 y (by omega) hne)
  have k0 := key none 0 (by decide) (fun _ s hs => by omega) (fun z hz => by cases hz)
  have k1 := key _ 1 (by decide) k0.1 k0.2
  have k2 := key _ 2 (by decide) k1.1 k1.2
  exact k2
set_option maxRecDepth 100000 in
theorem cq_blockOf {c p : Nat} (hc : kq_P c) (C : kb_M) (hp : p < 36) : kb_E (kb_en kz_App_blockOf [.inr (some c), .inl (nI p)] C) (fun q => q = (some (.inl (C (c + 2) p)), C)) := by
  have hcl : (nI p).toNatClampNeg = p := nI_clamp (by omega)
  rcases hc with rfl | rfl
  all_goals
    refine kb_go 40 [] ?_
    refine And.intro (fun h => absurd (of_decide_eq_true h) (nI_pos (by omega))) (fun _ => ?_)
    refine And.intro (fun h => absurd (of_decide_eq_true h) (nI_ge (b := 36) (by omega) (by omega))) (fun _ => ?_)
    refine And.intro (kb_in_nI (by omega) (by omega)) (And.intro rfl ?_)
    rw [hcl]
/-- a slot is emptied -/
def ka_gf (C : kb_M) (z r : Nat) : kb_M := kb_up (kb_up (kb_up (kb_up C 4 r (-1)) z 0 (-1)) z 1 (-1)) z 3 0
set_option maxRecDepth 100000 in
theorem cq_giveFrameBack {c z r : Nat} (hc : kq_P c) (hz : kq_S c z) (C : kb_M) (hr : r < 12) (hf : C z 0 = nI r) : kb_E (kb_en kz_App_giveFrameBack [.inr (some c), .inr (some z)] C) (fun q => q = (none, ka_gf C z r)) := by
  have E := cp_endBinding (c := 3) (n := 12) (Or.inl ⟨rfl, rfl⟩) C hr
  rw [← hf] at E
  rcases hc with rfl | rfl <;> rcases hz with rfl | rfl | rfl
  all_goals
    refine kb_go 40 [] ?_
    refine kb_E_to E ?_
    exact And.intro rfl (And.intro rfl rfl)
/-- a slot's words go to their block -/
def ka_st (C : kb_M) (c z r w : Nat) : kb_M := kb_up (kb_up (kp_cp C 5 8 r w) z 3 0) c 1 (C c 1 + 1)
set_option maxRecDepth 100000 in
theorem cq_store {c z r p w : Nat} (hc : kq_P c) (hz : kq_S c z) (C : kb_M) (hr : r < 12) (hf : C z 0 = nI r) (hp : p < 36) (hpt : C z 1 = nI p) (hw : w < 24) (hb : C (c + 2) p = nI w) (hch : C z 3 ≠ 0) : kb_E (kb_en kz_App_storeIfChanged [.inr (some c), .inr (some z)] C) (fun q => q = (none, ka_st C c z r w)) := by
  have B := cq_blockOf hc C hp
  rw [← hpt] at B
  have T := cp_takeWordsFrom (c := 6) (n := 24) (c1 := 3) (n1 := 12) (Or.inr ⟨rfl, rfl⟩) (Or.inl ⟨rfl, rfl⟩) C hr hw
  rw [← hf, ← hb] at T
  have e1 : ∀ k, k ≠ 8 → (kp_cp C 5 8 r w) k = C k := fun k hk => by unfold kp_cp; rw [kb_ro_ne _ _ hk]
  unfold ka_st
  rcases hc with rfl | rfl <;> rcases hz with rfl | rfl | rfl
  all_goals
    refine kb_go 60 [] ?_
    refine And.intro (fun _ => ?_) (fun h => absurd (Classical.not_not.mp (of_decide_eq_false h)) hch)
    refine kb_E_to B ?_
    refine kb_E_to T ?_
    refine And.intro rfl (And.intro rfl ?_)
    rw [kb_up_ne _ _ _ (by decide), e1 _ (by decide)]
    rfl
set_option maxRecDepth 100000 in
theorem cq_store_no {c z : Nat} (hc : kq_P c) (hz : kq_S c z) (C : kb_M) (hch : C z 3 = 0) : kb_E (kb_en kz_App_storeIfChanged [.inr (some c), .inr (some z)] C) (fun q => q = (none, C)) := by
  rcases hc with rfl | rfl <;> rcases hz with rfl | rfl | rfl
  all_goals
    refine kb_go 60 [] ?_
    exact And.intro (fun h => absurd hch (of_decide_eq_true h)) (fun _ => And.intro rfl rfl)
/-- a part's words come into a slot -/
def ka_ld (C : kb_M) (c z r w : Nat) (p : Int32) : kb_M := kb_up (kb_up (kb_up (kp_cp C 8 5 w r) z 1 p) z 3 0) c 0 (C c 0 + 1)
set_option maxRecDepth 100000 in
theorem cq_load {c z r p w : Nat} (hc : kq_P c) (hz : kq_S c z) (C : kb_M) (hr : r < 12) (hf : C z 0 = nI r) (hp : p < 36) (hw : w < 24) (hb : C (c + 2) p = nI w) : kb_E (kb_en kz_App_load [.inr (some c), .inr (some z), .inl (nI p)] C) (fun q => q = (none, ka_ld C c z r w (nI p))) := by
  have B := cq_blockOf hc C hp
  have T := cp_takeWordsFrom (c := 3) (n := 12) (c1 := 6) (n1 := 24) (Or.inl ⟨rfl, rfl⟩) (Or.inr ⟨rfl, rfl⟩) C hw hr
  rw [← hf, ← hb] at T
  have e1 : ∀ k, k ≠ 5 → (kp_cp C 8 5 w r) k = C k := fun k hk => by unfold kp_cp; rw [kb_ro_ne _ _ hk]
  unfold ka_ld
  rcases hc with rfl | rfl <;> rcases hz with rfl | rfl | rfl
  all_goals
    refine kb_go 60 [] ?_
    refine kb_E_to B ?_
    refine kb_E_to T ?_
    refine And.intro rfl (And.intro rfl ?_)
    rw [kb_up_ne _ _ _ (by decide), kb_up_ne _ _ _ (by decide), e1 _ (by decide)]
    rfl
set_option maxRecDepth 100000 in
theorem cq_isFile (C : kb_M) (v : Int32) : kb_E (kb_en kz_App_isFile [.inl v] C) (fun q => q = (some (.inl (if 0 ≤ v ∧ v ≤ 5 then 1 else 0)), C)) := by
  have h6 : ∀ v : Int32, (0 ≤ v ∧ v < 6) ↔ (0 ≤ v ∧ v ≤ 5) := by
    intro v
    constructor
    · intro h
      obtain ⟨k, hk, rfl⟩ := nI_of (Int32.not_lt.mpr h.1)
      have h2 : nI k < nI 6 := h.2
      rw [nI_ltI hk (by omega)] at h2
      exact kr_out (n := 5) (by omega) (by omega)
    · intro h
      obtain ⟨k, hk, rfl⟩ := kr_in v (n := 5) (by decide) h
      exact ⟨h.1, nI_lt (b := 6) (by omega) (by omega)⟩
  refine kb_go 20 [] ?_
  refine And.intro (fun h => ?_) (fun h => ?_)
  · have h : v < 0 := of_decide_eq_true h
    rw [if_neg (fun q => absurd q.1 (Int32.not_le.mpr h))]
    exact And.intro rfl rfl
  · have h : ¬ v < 0 := of_decide_eq_false h
    refine And.intro (fun h2 => ?_) (fun h2 => ?_)
    · have h2 : 6 ≤ v := of_decide_eq_true h2
      rw [if_neg (fun q => absurd ((h6 v).mpr q).2 (Int32.not_lt.mpr h2))]
      exact And.intro rfl rfl
    · have h2 : ¬ 6 ≤ v := of_decide_eq_false h2
      rw [if_pos ((h6 v).mp ⟨Int32.not_lt.mp h, Int32.not_le.mp h2⟩)]
      exact And.intro rfl rfl
end
section
/-! what happens to an application and to the reference's picture of it -/
/-- the reference's rows of application a stay -/
def kr_sa (R S : kb_M) (a : Nat) : Prop := (∀ i, i < 144 → S 34 (144 * a + i) = R 34 (144 * a + i)) ∧ (∀ f, f < 6 → S 35 (6 * a + f) = R 35 (6 * a + f)) ∧ (∀ j, j < 3 → S 36 (3 * a + j) = R 36 (3 * a + j) ∧ S 37 (3 * a + j) = R 37 (3 * a + j)) ∧ S 38 a = R 38 a
theorem kr_b_sa {R S : kb_M} {a : Nat} (h : ∀ f, f < 6 → S 35 (6 * a + f) = R 35 (6 * a + f)) : ∀ n, n ≤ 6 → kr_b S a n = kr_b R a n := by
  intro n
  induction n with
  | zero => intro _; rfl
  | succ n ih =>
    intro hn
    unfold kr_b kr_sz
    rw [ih (by omega), h n (by omega)]
theorem ki_A_fr2 {N : Nat} {C D R S : kb_M} {a : Nat} (h : ki_A N C R a) (hR : kr_ok R) (ha : a < 2) (hrow : ∀ k, 19 + 7 * a ≤ k → k ≤ 25 + 7 * a → D k = C k) (hs : kr_sa R S a) (hk : ki_keep C D a) : ki_A N D S a := by
  obtain ⟨s34, s35, s367, s38⟩ := hs
  have hz : ∀ f, f < 6 → kr_sz S (6 * a + f) = kr_sz R (6 * a + f) := fun f hf => by unfold kr_sz; rw [s35 f hf]
  -- a reference that has these rows as its own
  have hT : ki_A N D R a := ki_A_fr h hR ha hrow (fun _ _ _ => rfl) hk
  obtain ⟨h1, h2, ⟨p1, p2, p3⟩, ⟨L, l1, l2, l3, l4, l5, l6⟩, hw⟩ := hT
  have hfr := (hR.2.2.1 a ha).2
  have hlen : ∀ (j s : Nat), L[j]? = some s → j < 3 := fun j s hj => by
    have := (List.getElem?_eq_some_iff.mp hj).1
    omega
  refine ⟨⟨fun f hf => by rw [s35 f hf]; exact h1.1 f hf, by rw [kr_b_sa s35 6 (Nat.le_refl _)]; exact h1.2⟩, h2, ⟨?_, ?_, p3⟩, ⟨L, ?_, l2, l3, l4, ?_, ?_⟩, ?_⟩
  · intro f p hf hp hlt
    rw [hz f hf] at hlt
    exact p1 f p hf hp hlt
  · intro f p hf hp hlt
    rw [hz f hf] at hlt
    exact p2 f p hf hp hlt
  · rw [l1]; unfold kr_fr; rw [s38]
  · intro j s hj
    obtain ⟨e1, e2⟩ := s367 j (hlen j s hj)
    obtain ⟨q1, q2, q3, ⟨f, p, f1, f2, f3, f4⟩, q5⟩ := l5 j s hj
    rw [e1, e2]
    exact ⟨q1, q2, q3, ⟨f, p, f1, f2, by rw [hz f f1]; exact f3, f4⟩, q5⟩
  · intro j i s z hji hj hi
    rw [(s367 j (hlen j s hj)).1, (s367 i (hlen i z hi)).1]
    exact l6 j i s z hji hj hi
  · intro f i r hf hi hr hr24
    rw [hz f hf] at hi
    have h24 := (hR.2.1 (6 * a + f) (by omega)).2
    rw [show 144 * a + 24 * f + i = 144 * a + (24 * f + i) by omega, s34 (24 * f + i) (by omega), ← show 144 * a + 24 * f + i = 144 * a + (24 * f + i) by omega]
    exact hw f i r hf hi hr hr24
/-- application a moves, all else stays -/
theorem kj_app {N : Nat} {C D R S : kb_M} (h : ki_J N C R) {a : Nat} (ha : a < 2) (hS : kr_ok S) (s39 : S 39 = R 39) (s41 : S 41 = R 41) (s42 : S 42 = R 42) (s43 : S 43 = R 43) (s44 : S 44 = R 44) (hH : ki_H D) (hN : ki_N D S) (hC : ∀ k, 9 ≤ k → k ≤ 18 → D k = C k) (hO : ∀ o, o < 2 → o ≠ a → (∀ k, 19 + 7 * o ≤ k → k ≤ 25 + 7 * o → D k = C k) ∧ kr_sa R S o) (hk : ∀ e, e < 4 → e ≠ a → ki_keep C D e) (hA : ki_A N D S a) : ki_J N D S := by
  obtain ⟨hR, hst, -, -, hG, hAA⟩ := h
  refine ⟨hS, by rw [s42]; exact hst, hH, hN, fun g hg => ?_, fun o ho => ?_⟩
  · exact ki_G_fr (hG g hg) hR hg (fun k h1 h2 => hC k (by omega) (by omega)) ⟨by rw [s39], fun t _ => ⟨by rw [s41], by rw [s42], by rw [s43]⟩, fun t k _ _ => by rw [s44]⟩ (hk (2 + g) (by omega) (by omega))
  · by_cases hoa : o = a
    · rw [hoa]; exact hA
    · obtain ⟨o1, o2⟩ := hO o ho hoa
      exact ki_A_fr2 (hAA o ho) hR ho o1 o2 (hk o (by omega) hoa)
/-- counts when nobody's holding changes -/
theorem kn_same {C D R S : kb_M} (h : ki_N C R) (hC : ∀ b, b < 2 → D (4 + 3 * b) = C (4 + 3 * b)) (s35 : S 35 = R 35) (s38 : S 38 = R 38) (s39 : S 39 = R 39) (s41 : S 41 = R 41) (s42 : S 42 = R 42) : ki_N D S := by
  intro b hb e he
  rw [hC b hb, h b hb e he]
  rcases kr_env2 he with he2 | ⟨d, hd, rfl⟩
  · rw [kr_c_app (R := R) (S := S) s35 s38 he2]
  · rw [kr_c_g hd, kr_c_g hd]
    have q := kr_l_eq (R := R) (S := S) (g := d) (b := nI b) (kr_bd R d) (fun u hu => ⟨by rw [s41], by rw [s42]⟩)
    unfold kr_bd at q ⊢
    rw [s39, q]
/-- a slot that holds a part: its place, its frame, its part's block -/
theorem ka_slot {N : Nat} {C R : kb_M} {a : Nat} (hA : ki_A N C R a) (hR : kr_ok R) (ha : a < 2) {L : List Nat} (hL : ki_B C R a L) {j s : Nat} (hj : L[j]? = some s) : s < 3 ∧ j < 3 ∧ ∃ r f p w, r < 12 ∧ C (23 + 7 * a + s) 0 = nI r ∧ C 4 r = nI a ∧ f < 6 ∧ p < 6 ∧ 4 * p < kr_sz R (6 * a + f) ∧ R 36 (3 * a + j) = nI (6 * f + p) ∧ C (23 + 7 * a + s) 1 = nI (6 * f + p) ∧ w < 24 ∧ C (21 + 7 * a) (6 * f + p) = nI w ∧ C 7 w = nI a := by
  obtain ⟨-, -, ⟨p1, -, -⟩, -, -⟩ := hA
  obtain ⟨l1, l2, l3, l4, l5, l6⟩ := hL
  obtain ⟨q1, q2, ⟨r, r1, r2, r3⟩, ⟨f, p, f1, f2, f3, f4⟩, q5⟩ := l5 j s hj
  obtain ⟨w, w1, w2, w3⟩ := p1 f p f1 f2 f3
  have hfr := (hR.2.2.1 a ha).2
  have hlt := (List.getElem?_eq_some_iff.mp hj).1
  exact ⟨l3 s (List.mem_of_getElem? hj), by omega, r, f, p, w, r1, r2, r3, f1, f2, f3, f4, q1.trans f4, w1, w2, w3⟩
/-- two places of the order are one if their slots are -/
theorem ka_inj {L : List Nat} (h : L.Nodup) {i j s : Nat} (hi : L[i]? = some s) (hj : L[j]? = some s) : i = j :=
  (List.getElem?_inj (List.getElem?_eq_some_iff.mp hi).1 h).mp (hi.trans hj.symm)
theorem kr_so_same {R : kb_M} {j : Nat} (h : R 37 j = 0) : kr_so R j = R := by
  unfold kr_so
  rw [if_pos h]
  funext k q
  by_cases h37 : k = 37
  · subst h37
    rw [kb_up_at, kb_up_ne _ _ _ (by decide)]
    unfold upd
    by_cases hq : q = j
    · rw [if_pos hq, hq, h]
    · rw [if_neg hq]
  · rw [kb_up_ne _ _ _ h37]
    by_cases h33 : k = 33
    · subst h33
      rw [kb_up_at]
      unfold upd
      by_cases hq : q = 1
      · rw [if_pos hq, hq]
      · rw [if_neg hq]
    · rw [kb_up_ne _ _ _ h33]
set_option maxHeartbeats 1000000 in
/-- a changed slot is stored -/
theorem ka_store {N : Nat} {C R : kb_M} (h : ki_J N C R) {a : Nat} (ha : a < 2) {L : List Nat} (hL : ki_B C R a L) {j s r f p w : Nat} (hj : L[j]? = some s) (hr : r < 12) (hfr : C (23 + 7 * a + s) 0 = nI r) (hf : f < 6) (hp : p < 6) (hpt : C (23 + 7 * a + s) 1 = nI (6 * f + p)) (hw : w < 24) (hb : C (21 + 7 * a) (6 * f + p) = nI w) (hch : R 37 (3 * a + j) ≠ 0) : ki_J N (ka_st C (19 + 7 * a) (23 + 7 * a + s) r w) (kr_so R (3 * a + j)) ∧ ki_B (ka_st C (19 + 7 * a) (23 + 7 * a + s) r w) (kr_so R (3 * a + j)) a L := by
  have hA := h.2.2.2.2.2 a ha
  have hR := h.1
  obtain ⟨hs3, hj3, r', f', p', w', g1, g2, g3, g4, g5, g6, g7, g8, g9, g10, g11⟩ := ka_slot hA hR ha hL hj
  obtain ⟨h1, h2, ⟨p1, p2, p3⟩, -, hwd⟩ := hA
  obtain ⟨l1, l2, l3, l4, l5, l6⟩ := hL
  have epf : 6 * f + p = 6 * f' + p' := (nI_eq (by omega) (by omega)).mp (hpt.symm.trans g8)
  have eff : f = f' := by omega
  have epp : p = p' := by omega
  subst eff
  subst epp
  have hown : C 7 w = nI a := by
    have e : nI w = nI w' := hb.symm.trans g10
    rw [nI_eq (by omega) (by omega)] at e
    rw [e]; exact g11
  generalize hD : ka_st C (19 + 7 * a) (23 + 7 * a + s) r w = D
  generalize hS : kr_so R (3 * a + j) = S
  have d8 : D 8 = va_cpy (C 5) (C 8) (4 * r) (4 * w) 4 := by rw [← hD]; unfold ka_st kp_cp; rw [kb_up_ne _ _ _ (by omega), kb_up_ne _ _ _ (by omega), kb_ro_at]
  have dc : D (19 + 7 * a) = upd (C (19 + 7 * a)) 1 (C (19 + 7 * a) 1 + 1) := by rw [← hD]; unfold ka_st kp_cp; rw [kb_up_at, kb_up_ne _ _ _ (by omega), kb_ro_ne _ _ (by omega)]
  have dz : D (23 + 7 * a + s) = upd (C (23 + 7 * a + s)) 3 0 := by rw [← hD]; unfold ka_st kp_cp; rw [kb_up_ne _ _ _ (by omega), kb_up_at, kb_ro_ne _ _ (by omega)]
  have dn : ∀ k, k ≠ 8 → k ≠ 19 + 7 * a → k ≠ 23 + 7 * a + s → D k = C k := fun k q1 q2 q3 => by rw [← hD]; unfold ka_st kp_cp; rw [kb_up_ne _ _ _ q2, kb_up_ne _ _ _ q3, kb_ro_ne _ _ q1]
  have dsl : ∀ y q, y < 3 → q ≠ 3 → D (23 + 7 * a + y) q = C (23 + 7 * a + y) q := by
    intro y q hy hq
    by_cases hys : y = s
    · rw [hys, dz, pk_un hq]
    · rw [dn _ (by omega) (by omega) (by omega)]
  have sn : ∀ k, k ≠ 33 → k ≠ 37 → S k = R k := fun k q1 q2 => by rw [← hS]; unfold kr_so; rw [kb_up_ne _ _ _ q2, kb_up_ne _ _ _ q1]
  have s37 : S 37 = upd (R 37) (3 * a + j) 0 := by rw [← hS]; unfold kr_so; rw [kb_up_at, kb_up_ne _ _ _ (by decide)]
  have hB : ki_B D S a L := by
    refine ⟨by rw [l1]; unfold kr_fr; rw [sn 38 (by decide) (by decide)], l2, l3, fun y hy hn => ?_, fun i y hi => ?_, fun i k y z hik hi hk => ?_⟩
    · have hys : y ≠ s := fun q => hn (by rw [q]; exact List.mem_of_getElem? hj)
      rw [dn _ (by omega) (by omega) (by omega)]
      exact l4 y hy hn
    · have hy := l3 y (List.mem_of_getElem? hi)
      obtain ⟨q1, q2, ⟨r1, r2, r3, r4⟩, ⟨f1, p1', q6, q7, q8, q9⟩, ⟨u, v, q10, q11, q12⟩⟩ := l5 i y hi
      rw [dsl y 0 hy (by decide), dsl y 1 hy (by decide), dsl y 2 hy (by decide), dn 4 (by omega) (by omega) (by omega), sn 36 (by decide) (by decide), dc, pk_un (show (7 : Nat) ≠ 1 by decide)]
      refine ⟨q1, ?_, ⟨r1, r2, r3, r4⟩, ⟨f1, p1', q6, q7, by unfold kr_sz; rw [sn 35 (by decide) (by decide)]; exact q8, q9⟩, ⟨u, v, q10, q11, q12⟩⟩
      rw [s37]
      by_cases hys : y = s
      · have hij : i = j := ka_inj l2 hi (by rw [hys]; exact hj)
        rw [hys, dz, hij, pk_us, pk_us]
      · have hij : i ≠ j := fun q => hys (by
          rw [q, hj] at hi
          exact (Option.some.inj hi).symm)
        rw [dn _ (by omega) (by omega) (by omega), pk_un (by omega)]
        exact q2
    · have hy := l3 y (List.mem_of_getElem? hi)
      have hz := l3 z (List.mem_of_getElem? hk)
      rw [dsl y 2 hy (by decide), dsl z 2 hz (by decide), dsl y 0 hy (by decide), dsl z 0 hz (by decide), sn 36 (by decide) (by decide)]
      exact l6 i k y z hik hi hk
  refine ⟨?_, hB⟩
  refine kj_app h ha (by rw [← hS]; exact kr_so_ok hR _) (sn 39 (by decide) (by decide)) (sn 41 (by decide) (by decide)) (sn 42 (by decide) (by decide)) (sn 43 (by decide) (by decide)) (sn 44 (by decide) (by decide)) (fun b hb' q hq => ?_) (kn_same h.2.2.2.1 (fun b hb' => dn _ (by omega) (by omega) (by omega)) (sn 35 (by decide) (by decide)) (sn 38 (by decide) (by decide)) (sn 39 (by decide) (by decide)) (sn 41 (by decide) (by decide)) (sn 42 (by decide) (by decide))) (fun k q1 q2 => dn k (by omega) (by omega) (by omega)) (fun o ho hoa => ⟨fun k q1 q2 => dn k (by omega) (by omega) (by omega), fun i _ => by rw [sn 34 (by decide) (by decide)], fun f _ => by rw [sn 35 (by decide) (by decide)], fun i hi => ⟨by rw [sn 36 (by decide) (by decide)], by rw [s37, pk_un (by omega)]⟩, by rw [sn 38 (by decide) (by decide)]⟩) (fun e he hea => ?_) ?_
  · rw [dn _ (by omega) (by omega) (by omega)]
    exact h.2.2.1 b hb' q hq
  · intro b hb' q hq hce
    rw [dn (4 + 3 * b) (by omega) (by omega) (by omega)]
    refine ⟨hce, fun k hk => ?_⟩
    by_cases hb1 : b = 1
    · subst hb1
      have hqw : q ≠ w := fun z => by
        have hce : C 7 q = nI e := hce
        rw [z, hown, nI_eq (by omega) (by omega)] at hce
        exact hea hce.symm
      show D 8 (4 * q + k) = C 8 (4 * q + k)
      rw [d8, pk_cpy_out (by omega)]
    · rw [dn (5 + 3 * b) (by omega) (by omega) (by omega)]
  · refine ⟨⟨by rw [dn (20 + 7 * a) (by omega) (by omega) (by omega), sn 35 (by decide) (by decide)]; exact h1.1, by rw [kr_b_eq (sn 35 (by decide) (by decide))]; exact h1.2⟩, by rw [dc, pk_un (show (7 : Nat) ≠ 1 by decide)]; exact h2, ⟨?_, ?_, ?_⟩, ⟨L, hB⟩, ?_⟩
    · rw [dn (21 + 7 * a) (by omega) (by omega) (by omega), dn 7 (by omega) (by omega) (by omega)]
      unfold kr_sz
      rw [sn 35 (by decide) (by decide)]
      exact p1
    · rw [dn (21 + 7 * a) (by omega) (by omega) (by omega)]
      unfold kr_sz
      rw [sn 35 (by decide) (by decide)]
      exact p2
    · rw [dn (21 + 7 * a) (by omega) (by omega) (by omega)]
      exact p3
    · intro f0 i0 r0 hf0 hi0 hr0 hr24
      unfold kr_sz at hi0
      rw [sn 35 (by decide) (by decide)] at hi0
      have h24 := (hR.2.1 (6 * a + f0) (by omega)).2
      have hi24 : i0 < kr_sz R (6 * a + f0) := hi0
      rw [dn (21 + 7 * a) (by omega) (by omega) (by omega)] at hr0
      rw [sn 34 (by decide) (by decide), dn 5 (by omega) (by omega) (by omega)]
      obtain ⟨w1, w2⟩ := hwd f0 i0 r0 hf0 hi0 hr0 hr24
      by_cases hpart : 6 * f0 + i0 / 4 = 6 * f + p
      · -- the part that is stored
        have er : r0 = w := (nI_eq (by omega) (by omega)).mp (hr0.symm.trans (by rw [hpart]; exact hb))
        subst er
        refine ⟨fun y r1 hy hyp hyf hr1 => ?_, fun hno => ?_⟩
        · rw [dsl y 1 hy (by decide)] at hyp
          rw [dsl y 0 hy (by decide)] at hyf
          refine ⟨(w1 y r1 hy hyp hyf hr1).1, fun _ => ?_⟩
          have hv := (w1 s r hs3 (by rw [hpart]; exact hpt) hfr hr).1
          rw [d8, pk_cpy_in (by omega) (by omega), show 4 * r + (4 * r0 + i0 % 4 - 4 * r0) = 4 * r + i0 % 4 by omega]
          exact hv
        · exact absurd (by rw [dsl s 1 hs3 (by decide), hpart]; exact hpt) (hno s hs3)
      · have hrw : r0 ≠ w := fun q => hpart (p3 _ _ (by omega) (by omega) (by rw [hr0]; exact nI_m1 (by omega)) (by rw [hr0, hb, q]))
        rw [d8, pk_cpy_out (by omega)]
        refine ⟨fun y r1 hy hyp hyf hr1 => ?_, fun hno => ?_⟩
        · rw [dsl y 1 hy (by decide)] at hyp
          rw [dsl y 0 hy (by decide)] at hyf
          have hys : y ≠ s := fun q => hpart (by
            rw [q, hpt, nI_eq (by omega) (by omega)] at hyp
            exact hyp.symm)
          rw [dn (23 + 7 * a + y) (by omega) (by omega) (by omega)]
          exact w1 y r1 hy hyp hyf hr1
        · exact w2 (fun y hy => by rw [← dsl y 1 hy (by decide)]; exact hno y hy)
end
section
/-! a slot gives its frame back -/
theorem kr_rm_rows (R : kb_M) (a j : Nat) : (∀ k, k ≠ 36 → k ≠ 37 → k ≠ 38 → (kr_rm R a j) k = R k) ∧ (kr_rm R a j) 38 = upd (R 38) a (nI (kr_fr R a - 1)) ∧ (∀ q, (kr_rm R a j) 36 q = if 3 * a + j ≤ q ∧ q < 3 * a + (kr_fr R a - 1) then R 36 (q + 1) else R 36 q) ∧ (∀ q, (kr_rm R a j) 37 q = if 3 * a + j ≤ q ∧ q < 3 * a + (kr_fr R a - 1) then R 37 (q + 1) else R 37 q) := by
  refine ⟨fun k g1 g2 g3 => ?_, ?_, fun q => ?_, fun q => ?_⟩
  · unfold kr_rm; rw [kb_up_ne _ _ _ g3, kr_ri1_ne _ _ _ _ g1 g2]
  · unfold kr_rm; rw [kb_up_at, kr_ri1_ne _ _ _ _ (by decide) (by decide)]
  · unfold kr_rm; rw [kb_up_ne _ _ _ (by decide), kr_ri1_36]
  · unfold kr_rm; rw [kb_up_ne _ _ _ (by decide), kr_ri1_37]
/-- the place of the shortened order -/
def ka_pl (j i : Nat) : Nat := if i < j then i else i + 1
theorem ka_er {L : List Nat} {j i s : Nat} (h : (L.eraseIdx j)[i]? = some s) : L[ka_pl j i]? = some s := by
  unfold ka_pl
  by_cases hij : i < j
  · rw [if_pos hij]
    rw [List.getElem?_eraseIdx_of_lt hij] at h
    exact h
  · rw [if_neg hij]
    rw [List.getElem?_eraseIdx_of_ge (by omega)] at h
    exact h
theorem ka_er_mem {L : List Nat} {j s y : Nat} (hd : L.Nodup) (hj : L[j]? = some s) : y ∈ L.eraseIdx j ↔ y ∈ L ∧ y ≠ s := by
  constructor
  · intro h
    obtain ⟨i, hi⟩ := List.getElem?_of_mem h
    have h1 := ka_er hi
    refine ⟨List.mem_of_getElem? h1, fun q => ?_⟩
    rw [q] at h1
    have := ka_inj hd h1 hj
    unfold ka_pl at this
    split at this <;> omega
  · rintro ⟨h1, h2⟩
    obtain ⟨i, hi⟩ := List.getElem?_of_mem h1
    have hij : i ≠ j := fun q => h2 (by rw [q, hj] at hi; exact (Option.some.inj hi).symm)
    by_cases hlt : i < j
    · exact List.mem_of_getElem? (i := i) (by rw [List.getElem?_eraseIdx_of_lt hlt]; exact hi)
    · exact List.mem_of_getElem? (i := i - 1) (by rw [List.getElem?_eraseIdx_of_ge (by omega), show i - 1 + 1 = i by omega]; exact hi)
set_option maxHeartbeats 1000000 in
/-- a slot whose words lie in their block gives its frame back -/
theorem ka_out {N : Nat} {C R : kb_M} (h : ki_J N C R) {a : Nat} (ha : a < 2) {L : List Nat} (hL : ki_B C R a L) {j s r : Nat} (hj : L[j]? = some s) (hr : r < 12) (hfr : C (23 + 7 * a + s) 0 = nI r) (hch : R 37 (3 * a + j) = 0) : ki_J N (ka_gf C (23 + 7 * a + s) r) (kr_rm R a j) ∧ ki_B (ka_gf C (23 + 7 * a + s) r) (kr_rm R a j) a (L.eraseIdx j) := by
  have hA := h.2.2.2.2.2 a ha
  have hR := h.1
  obtain ⟨hs3, hj3, r', f, p, w, g1, g2, g3, g4, g5, g6, g7, g8, g9, g10, g11⟩ := ka_slot hA hR ha hL hj
  obtain ⟨h1, h2, ⟨p1, p2, p3⟩, -, hwd⟩ := hA
  obtain ⟨l1, l2, l3, l4, l5, l6⟩ := hL
  have err : r = r' := (nI_eq (by omega) (by omega)).mp (hfr.symm.trans g2)
  subst err
  have hjl : j < kr_fr R a := by rw [← l1]; exact (List.getElem?_eq_some_iff.mp hj).1
  have hfl := (hR.2.2.1 a ha).2
  obtain ⟨hS, hSf⟩ := kr_rm_ok hR ha hjl
  obtain ⟨sn, s38, s36, s37⟩ := kr_rm_rows R a j
  generalize hSe : kr_rm R a j = S at *
  generalize hD : ka_gf C (23 + 7 * a + s) r = D
  have d4 : D 4 = upd (C 4) r (-1) := by rw [← hD]; unfold ka_gf; rw [kb_up_ne _ _ _ (by omega), kb_up_ne _ _ _ (by omega), kb_up_ne _ _ _ (by omega), kb_up_at]
  have dz : D (23 + 7 * a + s) = upd (upd (upd (C (23 + 7 * a + s)) 0 (-1)) 1 (-1)) 3 0 := by rw [← hD]; unfold ka_gf; rw [kb_up_at, kb_up_at, kb_up_at, kb_up_ne _ _ _ (by omega)]
  have dn : ∀ k, k ≠ 4 → k ≠ 23 + 7 * a + s → D k = C k := fun k q1 q2 => by rw [← hD]; unfold ka_gf; rw [kb_up_ne _ _ _ q2, kb_up_ne _ _ _ q2, kb_up_ne _ _ _ q2, kb_up_ne _ _ _ q1]
  have dzo : ∀ y, y ≠ s → D (23 + 7 * a + y) = C (23 + 7 * a + y) := fun y hy => dn _ (by omega) (by omega)
  have pl : ∀ i y, (L.eraseIdx j)[i]? = some y → ka_pl j i < kr_fr R a ∧ S 36 (3 * a + i) = R 36 (3 * a + ka_pl j i) ∧ S 37 (3 * a + i) = R 37 (3 * a + ka_pl j i) ∧ y ≠ s ∧ y < 3 := by
    intro i y hi
    have h1 := ka_er hi
    have h2 : ka_pl j i < kr_fr R a := by rw [← l1]; exact (List.getElem?_eq_some_iff.mp h1).1
    have hne := ((ka_er_mem l2 hj).mp (List.mem_of_getElem? hi)).2
    refine ⟨h2, ?_, ?_, hne, l3 y (List.mem_of_getElem? h1)⟩
    · rw [s36]
      unfold ka_pl at h2 ⊢
      by_cases hij : i < j
      · rw [if_pos hij, if_neg (by omega)]
      · rw [if_neg hij] at h2 ⊢
        rw [if_pos (by omega)]
        congr 1
    · rw [s37]
      unfold ka_pl at h2 ⊢
      by_cases hij : i < j
      · rw [if_pos hij, if_neg (by omega)]
      · rw [if_neg hij] at h2 ⊢
        rw [if_pos (by omega)]
        congr 1
  have hB : ki_B D S a (L.eraseIdx j) := by
    refine ⟨?_, l2.eraseIdx j, fun y hy => l3 y ((ka_er_mem l2 hj).mp hy).1, fun y hy hn => ?_, fun i y hi => ?_, fun i k y z hik hi hk => ?_⟩
    · rw [List.length_eraseIdx_of_lt (by rw [l1]; exact hjl), l1, hSf]
    · by_cases hys : y = s
      · rw [hys, dz]
        exact ⟨by rw [pk_un (by decide), pk_un (by decide), pk_us], by rw [pk_un (by decide), pk_us], pk_us⟩
      · rw [dzo y hys]
        exact l4 y hy (fun q => hn ((ka_er_mem l2 hj).mpr ⟨q, hys⟩))
    · obtain ⟨q1, q2, q3, q4, q5⟩ := pl i y hi
      obtain ⟨m1, m2, ⟨r1, m3, m4, m5⟩, ⟨f1, p1', m6, m7, m8, m9⟩, ⟨u, v, m10, m11, m12⟩⟩ := l5 _ y (ka_er hi)
      rw [dzo y q4, q2, q3, dn (19 + 7 * a) (by omega) (by omega)]
      refine ⟨m1, m2, ⟨r1, m3, m4, ?_⟩, ⟨f1, p1', m6, m7, by unfold kr_sz; rw [sn 35 (by decide) (by decide) (by decide)]; exact m8, m9⟩, ⟨u, v, m10, m11, m12⟩⟩
      have hrr : r1 ≠ r := by
        intro q
        have hpj : ka_pl j i ≠ j := by unfold ka_pl; split <;> omega
        by_cases hlt : ka_pl j i < j
        · exact (l6 _ _ y s hlt (ka_er hi) hj).2.2 (by rw [m4, hfr, q])
        · exact (l6 _ _ s y (by omega) hj (ka_er hi)).2.2 (by rw [m4, hfr, q])
      rw [d4, pk_un hrr]
      exact m5
    · obtain ⟨q1, q2, q3, q4, q5⟩ := pl i y hi
      obtain ⟨t1, t2, t3, t4, t5⟩ := pl k z hk
      rw [dzo y q4, dzo z t4, q2, t2]
      exact l6 _ _ y z (by unfold ka_pl; split <;> split <;> omega) (ka_er hi) (ka_er hk)
  refine ⟨?_, hB⟩
  refine kj_app h ha hS (sn 39 (by decide) (by decide) (by decide)) (sn 41 (by decide) (by decide) (by decide)) (sn 42 (by decide) (by decide) (by decide)) (sn 43 (by decide) (by decide) (by decide)) (sn 44 (by decide) (by decide) (by decide)) (fun b hb' q hq => ?_) (fun b hb' e he => ?_) (fun k q1 q2 => dn k (by omega) (by omega)) (fun o ho hoa => ⟨fun k q1 q2 => dn k (by omega) (by omega), fun i _ => by rw [sn 34 (by decide) (by decide) (by decide)], fun f _ => by rw [sn 35 (by decide) (by decide) (by decide)], fun i hi => ⟨by rw [s36, if_neg (by omega)], by rw [s37, if_neg (by omega)]⟩, by rw [s38, pk_un hoa]⟩) (fun e he hea => ?_) ?_
  · by_cases hb0 : b = 0
    · subst hb0
      show D 4 q = -1 ∨ ∃ e, e < 4 ∧ D 4 q = nI e
      rw [d4]
      unfold upd
      by_cases hqr : q = r
      · rw [if_pos hqr]; exact Or.inl rfl
      · rw [if_neg hqr]; exact h.2.2.1 0 hb' q hq
    · rw [dn _ (by omega) (by omega)]
      exact h.2.2.1 b hb' q hq
  · have hold := h.2.2.2.1 b hb' e he
    have s35 := sn 35 (by decide) (by decide) (by decide)
    have hcnt : kr_c S e b + (if b = 0 ∧ e = a then 1 else 0) = kr_c R e b := by
      rcases kr_env2 he with he2 | ⟨d, hd, rfl⟩
      · unfold kr_c
        rw [if_pos he2, if_pos he2, kr_b_eq s35]
        by_cases hb0 : b = 0
        · rw [if_pos hb0, if_pos hb0]
          unfold kr_fr
          rw [s38]
          unfold upd
          by_cases hea : e = a
          · rw [if_pos hea, if_pos ⟨hb0, hea⟩, nI_clamp (by omega), hea]
            have : (R 38 a).toNatClampNeg = kr_fr R a := rfl
            omega
          · rw [if_neg hea, if_neg (fun q => hea q.2)]
            omega
        · rw [if_neg hb0, if_neg hb0, if_neg (fun q => hb0 q.1)]
          omega
      · rw [kr_c_g hd, kr_c_g hd, if_neg (by omega)]
        have q := kr_l_eq (R := R) (S := S) (g := d) (b := nI b) (kr_bd R d) (fun u hu => ⟨by rw [sn 41 (by decide) (by decide) (by decide)], by rw [sn 42 (by decide) (by decide) (by decide)]⟩)
        unfold kr_bd at q ⊢
        rw [sn 39 (by decide) (by decide) (by decide), q]
        rfl
    by_cases hb0 : b = 0
    · subst hb0
      show kp_c (D 4) (nI e) (12 + 12 * 0) = kr_c S e 0
      have h1 := kp_c_upd (f := C 4) (r := r) (x := -1) (e := nI e) (12 + 12 * 0) (by omega)
      rw [g3, if_neg (show ¬ (-1 : Int32) = nI e from fun q => nI_m1 (a := e) (by omega) q.symm)] at h1
      have hold : kp_c (C 4) (nI e) (12 + 12 * 0) = kr_c R e 0 := hold
      rw [d4]
      by_cases hea : e = a
      · rw [if_pos (by rw [hea])] at h1
        rw [if_pos ⟨rfl, hea⟩] at hcnt
        omega
      · rw [if_neg (nI_ne (by omega) (by omega) (fun q => hea q.symm))] at h1
        rw [if_neg (fun q => hea q.2)] at hcnt
        omega
    · rw [dn _ (by omega) (by omega), hold, ← hcnt, if_neg (fun q => hb0 q.1)]
      rfl
  · intro b hb' q hq hce
    refine ⟨?_, fun k hk => by rw [dn (5 + 3 * b) (by omega) (by omega)]⟩
    by_cases hb0 : b = 0
    · subst hb0
      have hce : C 4 q = nI e := hce
      have hqr : q ≠ r := fun z => by
        rw [z, g3, nI_eq (by omega) (by omega)] at hce
        exact hea hce.symm
      show D 4 q = nI e
      rw [d4, pk_un hqr]
      exact hce
    · rw [dn _ (by omega) (by omega)]
      exact hce
  · have s35 := sn 35 (by decide) (by decide) (by decide)
    refine ⟨⟨by rw [dn (20 + 7 * a) (by omega) (by omega), s35]; exact h1.1, by rw [kr_b_eq s35]; exact h1.2⟩, by rw [dn (19 + 7 * a) (by omega) (by omega)]; exact h2, ⟨?_, ?_, ?_⟩, ⟨_, hB⟩, ?_⟩
    · rw [dn (21 + 7 * a) (by omega) (by omega), dn 7 (by omega) (by omega)]
      unfold kr_sz
      rw [s35]
      exact p1
    · rw [dn (21 + 7 * a) (by omega) (by omega)]
      unfold kr_sz
      rw [s35]
      exact p2
    · rw [dn (21 + 7 * a) (by omega) (by omega)]
      exact p3
    · intro f0 i0 r0 hf0 hi0 hr0 hr24
      unfold kr_sz at hi0
      rw [s35] at hi0
      have h24 := (hR.2.1 (6 * a + f0) (by omega)).2
      have hi24 : i0 < kr_sz R (6 * a + f0) := hi0
      rw [dn (21 + 7 * a) (by omega) (by omega)] at hr0
      rw [sn 34 (by decide) (by decide) (by decide), dn 5 (by omega) (by omega), dn 8 (by omega) (by omega)]
      obtain ⟨w1, w2⟩ := hwd f0 i0 r0 hf0 hi0 hr0 hr24
      refine ⟨fun y r1 hy hyp hyf hr1 => ?_, fun hno => ?_⟩
      · have hys : y ≠ s := fun q => by
          rw [q, dz, pk_un (by decide), pk_us] at hyp
          exact nI_m1 (by omega) hyp.symm
        rw [dzo y hys] at hyp hyf ⊢
        exact w1 y r1 hy hyp hyf hr1
      · by_cases hpart : 6 * f0 + i0 / 4 = 6 * f + p
        · exact (w1 s r hs3 (by rw [hpart]; exact g8) hfr hr).2 ((l5 j s hj).2.1.trans hch)
        · refine w2 (fun y hy => ?_)
          by_cases hys : y = s
          · rw [hys, g8]
            exact nI_ne (by omega) (by omega) (fun q => hpart q.symm)
          · rw [← dzo y hys]
            exact hno y hy
end
section
/-! a slot is used: it becomes the youngest -/
theorem kr_ad_rows (R : kb_M) (a : Nat) (p d : Int32) : (∀ k, k ≠ 36 → k ≠ 37 → k ≠ 38 → (kr_ad R a p d) k = R k) ∧ (kr_ad R a p d) 38 = upd (R 38) a (R 38 a + 1) ∧ (kr_ad R a p d) 36 = upd (R 36) (3 * a + kr_fr R a) p ∧ (kr_ad R a p d) 37 = upd (R 37) (3 * a + kr_fr R a) d := by
  refine ⟨fun k g1 g2 g3 => ?_, ?_, ?_, ?_⟩
  · unfold kr_ad; rw [kb_up_ne _ _ _ g3, kb_up_ne _ _ _ g2, kb_up_ne _ _ _ g1]
  · unfold kr_ad; rw [kb_up_at, kb_up_ne _ _ _ (by decide), kb_up_ne _ _ _ (by decide)]
  · unfold kr_ad; rw [kb_up_ne _ _ _ (by decide), kb_up_ne _ _ _ (by decide), kb_up_at]
  · unfold kr_ad; rw [kb_up_ne _ _ _ (by decide), kb_up_at, kb_up_ne _ _ _ (by decide)]
theorem ka_nd {L : List Nat} {s : Nat} (h : L.Nodup) (hs : s ∉ L) : (L ++ [s]).Nodup := by
  refine List.pairwise_append.mpr ⟨h, List.pairwise_singleton _ _, fun x hx y hy => ?_⟩
  rw [List.mem_singleton.mp hy]
  exact fun q => hs (q ▸ hx)
/-- a place of the lengthened order -/
theorem ka_app {L : List Nat} {s i y : Nat} (h : (L ++ [s])[i]? = some y) : (i < L.length ∧ L[i]? = some y) ∨ (i = L.length ∧ y = s) := by
  by_cases hi : i < L.length
  · rw [List.getElem?_append_left hi] at h
    exact Or.inl ⟨hi, h⟩
  · rw [List.getElem?_append_right (by omega)] at h
    have h2 := List.mem_of_getElem? h
    have h3 := (List.getElem?_eq_some_iff.mp h).1
    simp only [List.length_singleton] at h3
    exact Or.inr ⟨by omega, List.mem_singleton.mp h2⟩
theorem kj_N {N : Nat} {C R : kb_M} (h : ki_J N C R) : ki_J (N + 1) C R := by
  obtain ⟨hR, hst, hH, hN, hG, hA⟩ := h
  refine ⟨hR, hst, hH, hN, hG, fun a ha => ?_⟩
  obtain ⟨a1, ⟨u, u1, u2⟩, a3, a4, a5⟩ := hA a ha
  exact ⟨a1, ⟨u, u1, by omega⟩, a3, a4, a5⟩
set_option maxHeartbeats 1000000 in
theorem ka_touch {N : Nat} {C R : kb_M} (h : ki_J N C R) (hN6 : N ≤ 600) {a : Nat} (ha : a < 2) {L : List Nat} (hL : ki_B C R a L) {j s v : Nat} (hj : L[j]? = some s) (hv : C (19 + 7 * a) 7 = nI v) (hvN : v ≤ N) : ki_J (N + 1) (kb_up (kb_up C (19 + 7 * a) 7 (nI (v + 1))) (23 + 7 * a + s) 2 (nI (v + 1))) (kr_ad (kr_rm R a j) a (R 36 (3 * a + j)) (R 37 (3 * a + j))) ∧ ki_B (kb_up (kb_up C (19 + 7 * a) 7 (nI (v + 1))) (23 + 7 * a + s) 2 (nI (v + 1))) (kr_ad (kr_rm R a j) a (R 36 (3 * a + j)) (R 37 (3 * a + j))) a (L.eraseIdx j ++ [s]) := by
  have hA := h.2.2.2.2.2 a ha
  have hR := h.1
  obtain ⟨hs3, hj3, -⟩ := ka_slot hA hR ha hL hj
  obtain ⟨h1, h2, ⟨p1, p2, p3⟩, -, hwd⟩ := hA
  obtain ⟨l1, l2, l3, l4, l5, l6⟩ := hL
  have hjl : j < kr_fr R a := by rw [← l1]; exact (List.getElem?_eq_some_iff.mp hj).1
  have hfl := (hR.2.2.1 a ha).2
  obtain ⟨hT, hTf⟩ := kr_rm_ok hR ha hjl
  obtain ⟨hS, hSf⟩ := kr_ad_ok hT ha (by omega) (p := R 36 (3 * a + j)) (hR.2.2.2.2 (3 * a + j) (by omega))
  obtain ⟨tn, t38, t36, t37⟩ := kr_rm_rows R a j
  obtain ⟨an, a38, a36, a37⟩ := kr_ad_rows (kr_rm R a j) a (R 36 (3 * a + j)) (R 37 (3 * a + j))
  rw [hTf] at a36 a37 hSf
  generalize hSe : kr_ad (kr_rm R a j) a (R 36 (3 * a + j)) (R 37 (3 * a + j)) = S at *
  generalize hD : kb_up (kb_up C (19 + 7 * a) 7 (nI (v + 1))) (23 + 7 * a + s) 2 (nI (v + 1)) = D
  have sn : ∀ k, k ≠ 36 → k ≠ 37 → k ≠ 38 → S k = R k := fun k q1 q2 q3 => by rw [an k q1 q2 q3, tn k q1 q2 q3]
  have s38 : ∀ o, S 38 o = R 38 o := by
    intro o
    by_cases hoa : o = a
    · rw [hoa, a38, pk_us, t38, pk_us, ← nI_succ, (hR.2.2.1 a ha).1]
      congr 1
      omega
    · rw [a38, pk_un hoa, t38, pk_un hoa]
  have s36 : ∀ q, S 36 q = if q = 3 * a + (kr_fr R a - 1) then R 36 (3 * a + j) else if 3 * a + j ≤ q ∧ q < 3 * a + (kr_fr R a - 1) then R 36 (q + 1) else R 36 q := fun q => by rw [a36]; unfold upd; rw [t36]
  have s37 : ∀ q, S 37 q = if q = 3 * a + (kr_fr R a - 1) then R 37 (3 * a + j) else if 3 * a + j ≤ q ∧ q < 3 * a + (kr_fr R a - 1) then R 37 (q + 1) else R 37 q := fun q => by rw [a37]; unfold upd; rw [t37]
  have dc : D (19 + 7 * a) = upd (C (19 + 7 * a)) 7 (nI (v + 1)) := by rw [← hD, kb_up_ne _ _ _ (by omega), kb_up_at]
  have dz : D (23 + 7 * a + s) = upd (C (23 + 7 * a + s)) 2 (nI (v + 1)) := by rw [← hD, kb_up_at, kb_up_ne _ _ _ (by omega)]
  have dn : ∀ k, k ≠ 19 + 7 * a → k ≠ 23 + 7 * a + s → D k = C k := fun k q1 q2 => by rw [← hD, kb_up_ne _ _ _ q2, kb_up_ne _ _ _ q1]
  have dsl : ∀ y q, y < 3 → q ≠ 2 → D (23 + 7 * a + y) q = C (23 + 7 * a + y) q := by
    intro y q hy hq
    by_cases hys : y = s
    · rw [hys, dz, pk_un hq]
    · rw [dn _ (by omega) (by omega)]
  have hlen : (L.eraseIdx j).length = kr_fr R a - 1 := by rw [List.length_eraseIdx_of_lt (by rw [l1]; exact hjl), l1]
  have hsn : s ∉ L.eraseIdx j := fun q => ((ka_er_mem l2 hj).mp q).2 rfl
  -- where a place of the new order comes from
  have pl : ∀ i y, (L.eraseIdx j ++ [s])[i]? = some y → ∃ i0, L[i0]? = some y ∧ S 36 (3 * a + i) = R 36 (3 * a + i0) ∧ S 37 (3 * a + i) = R 37 (3 * a + i0) ∧ y < 3 ∧ ((i < kr_fr R a - 1 ∧ i0 = ka_pl j i ∧ y ≠ s) ∨ (i = kr_fr R a - 1 ∧ i0 = j ∧ y = s)) := by
    intro i y hi
    rcases ka_app hi with ⟨q1, q2⟩ | ⟨q1, q2⟩
    · rw [hlen] at q1
      have q3 := ka_er q2
      have hne := ((ka_er_mem l2 hj).mp (List.mem_of_getElem? q2)).2
      refine ⟨ka_pl j i, q3, ?_, ?_, l3 y (List.mem_of_getElem? q3), Or.inl ⟨q1, rfl, hne⟩⟩
      · rw [s36, if_neg (by omega)]
        unfold ka_pl
        by_cases hij : i < j
        · rw [if_pos hij, if_neg (by omega)]
        · rw [if_neg hij, if_pos (by omega)]
          congr 1
      · rw [s37, if_neg (by omega)]
        unfold ka_pl
        by_cases hij : i < j
        · rw [if_pos hij, if_neg (by omega)]
        · rw [if_neg hij, if_pos (by omega)]
          congr 1
    · rw [hlen] at q1
      refine ⟨j, by rw [q2]; exact hj, by rw [s36, if_pos (by omega)], by rw [s37, if_pos (by omega)], by rw [q2]; exact hs3, Or.inr ⟨q1, rfl, q2⟩⟩
  have hB : ki_B D S a (L.eraseIdx j ++ [s]) := by
    refine ⟨?_, ka_nd (l2.eraseIdx j) hsn, fun y hy => ?_, fun y hy hn => ?_, fun i y hi => ?_, fun i k y z hik hi hk => ?_⟩
    · rw [List.length_append, hlen, hSf]; rfl
    · rcases List.mem_append.mp hy with q | q
      · exact l3 y ((ka_er_mem l2 hj).mp q).1
      · rw [List.mem_singleton.mp q]; exact hs3
    · have hys : y ≠ s := fun q => hn (List.mem_append.mpr (Or.inr (List.mem_singleton.mpr q)))
      rw [dn _ (by omega) (by omega)]
      exact l4 y hy (fun q => hn (List.mem_append.mpr (Or.inl ((ka_er_mem l2 hj).mpr ⟨q, hys⟩))))
    · obtain ⟨i0, q1, q2, q3, q4, q5⟩ := pl i y hi
      obtain ⟨m1, m2, ⟨r1, m3, m4, m5⟩, ⟨f1, p1', m6, m7, m8, m9⟩, ⟨u, v', m10, m11, m12⟩⟩ := l5 _ y q1
      have evv : v' = v := (nI_eq (by omega) (by omega)).mp (m11.symm.trans hv)
      rw [q2, q3, dsl y 0 q4 (by decide), dsl y 1 q4 (by decide), dsl y 3 q4 (by decide), dn 4 (by omega) (by omega), dc, pk_us]
      refine ⟨m1, m2, ⟨r1, m3, m4, m5⟩, ⟨f1, p1', m6, m7, by unfold kr_sz; rw [sn 35 (by decide) (by decide) (by decide)]; exact m8, m9⟩, ?_⟩
      rcases q5 with ⟨-, -, hys⟩ | ⟨-, -, hys⟩
      · rw [dn _ (by omega) (by omega)]
        exact ⟨u, v + 1, m10, rfl, by omega, by omega⟩
      · rw [hys, dz, pk_us]
        exact ⟨v + 1, v + 1, rfl, rfl, Nat.le_refl _, by omega⟩
    · obtain ⟨i0, q1, q2, q3, q4, q5⟩ := pl i y hi
      obtain ⟨k0, t1, t2, t3, t4, t5⟩ := pl k z hk
      rw [q2, t2, dsl y 0 q4 (by decide), dsl z 0 t4 (by decide)]
      rcases q5 with ⟨e1, e2, hys⟩ | ⟨e1, e2, hys⟩
      · rcases t5 with ⟨f1, f2, hzs⟩ | ⟨f1, f2, hzs⟩
        · rw [dn (23 + 7 * a + y) (by omega) (by omega), dn (23 + 7 * a + z) (by omega) (by omega)]
          exact l6 i0 k0 y z (by rw [e2, f2]; unfold ka_pl; split <;> split <;> omega) q1 t1
        · obtain ⟨m1, m2, m3, m4, ⟨u, v', m10, m11, m12, m13⟩⟩ := l5 _ y q1
          have evv : v' = v := (nI_eq (by omega) (by omega)).mp (m11.symm.trans hv)
          have hne : i0 ≠ j := by rw [e2]; unfold ka_pl; split <;> omega
          rw [hzs, dz, pk_us, dn (23 + 7 * a + y) (by omega) (by omega), m10, f2]
          refine ⟨nI_lt (by omega) (by omega), ?_⟩
          by_cases hlt : i0 < j
          · exact (l6 i0 j y s hlt q1 hj).2
          · have q := (l6 j i0 s y (by omega) hj q1).2
            exact ⟨fun z => q.1 z.symm, fun z => q.2 z.symm⟩
      · rcases t5 with ⟨f1, f2, hzs⟩ | ⟨f1, f2, hzs⟩ <;> omega
  refine ⟨?_, hB⟩
  have s35 := sn 35 (by decide) (by decide) (by decide)
  have es38 : S 38 = R 38 := funext s38
  refine kj_app (kj_N h) ha hS (sn 39 (by decide) (by decide) (by decide)) (sn 41 (by decide) (by decide) (by decide)) (sn 42 (by decide) (by decide) (by decide)) (sn 43 (by decide) (by decide) (by decide)) (sn 44 (by decide) (by decide) (by decide)) (fun b hb' q hq => by rw [dn _ (by omega) (by omega)]; exact h.2.2.1 b hb' q hq) (kn_same h.2.2.2.1 (fun b hb' => dn _ (by omega) (by omega)) s35 es38 (sn 39 (by decide) (by decide) (by decide)) (sn 41 (by decide) (by decide) (by decide)) (sn 42 (by decide) (by decide) (by decide))) (fun k q1 q2 => dn k (by omega) (by omega)) (fun o ho hoa => ⟨fun k q1 q2 => dn k (by omega) (by omega), fun i _ => by rw [sn 34 (by decide) (by decide) (by decide)], fun f _ => by rw [s35], fun i hi => ⟨by rw [s36, if_neg (by omega), if_neg (by omega)], by rw [s37, if_neg (by omega), if_neg (by omega)]⟩, s38 o⟩) (fun e he hea => kk_rows e (fun b hb' => ⟨dn _ (by omega) (by omega), dn _ (by omega) (by omega)⟩)) ?_
  refine ⟨⟨by rw [dn (20 + 7 * a) (by omega) (by omega), s35]; exact h1.1, by rw [kr_b_eq s35]; exact h1.2⟩, ⟨v + 1, by rw [dc, pk_us], by omega⟩, ⟨?_, ?_, ?_⟩, ⟨_, hB⟩, ?_⟩
  · rw [dn (21 + 7 * a) (by omega) (by omega), dn 7 (by omega) (by omega)]
    unfold kr_sz
    rw [s35]
    exact p1
  · rw [dn (21 + 7 * a) (by omega) (by omega)]
    unfold kr_sz
    rw [s35]
    exact p2
  · rw [dn (21 + 7 * a) (by omega) (by omega)]
    exact p3
  · intro f0 i0 r0 hf0 hi0 hr0 hr24
    unfold kr_sz at hi0
    rw [s35] at hi0
    rw [dn (21 + 7 * a) (by omega) (by omega)] at hr0
    rw [sn 34 (by decide) (by decide) (by decide), dn 5 (by omega) (by omega), dn 8 (by omega) (by omega)]
    obtain ⟨w1, w2⟩ := hwd f0 i0 r0 hf0 hi0 hr0 hr24
    refine ⟨fun y r1 hy hyp hyf hr1 => ?_, fun hno => w2 (fun y hy => by rw [← dsl y 1 hy (by decide)]; exact hno y hy)⟩
    rw [dsl y 1 hy (by decide)] at hyp
    rw [dsl y 0 hy (by decide)] at hyf
    rw [dsl y 3 hy (by decide)]
    exact w1 y r1 hy hyp hyf hr1
end
section
/-! a part comes into an empty slot -/
set_option maxHeartbeats 1000000 in
theorem ka_in {N : Nat} {C D R S : kb_M} (h : ki_J N C R) (hN6 : N ≤ 600) {a : Nat} (ha : a < 2) {L : List Nat} (hL : ki_B C R a L) {s r f p w v : Nat} (hs : s < 3) (hsn : s ∉ L) (hn : kr_fr R a < 3) (hr : r < 12) (hfree : C 4 r = -1) (hf : f < 6) (hp : p < 6) (hval : 4 * p < kr_sz R (6 * a + f)) (hw : w < 24) (hb : C (21 + 7 * a) (6 * f + p) = nI w) (hno : ∀ j, j < kr_fr R a → R 36 (3 * a + j) ≠ nI (6 * f + p)) (hv : C (19 + 7 * a) 7 = nI v) (hvN : v ≤ N)
    (e4 : D 4 = upd (C 4) r (nI a)) (e5 : ∀ q, D 5 q = if q / 4 = r then C 8 (4 * w + q % 4) else C 5 q) (ez : D (23 + 7 * a + s) 0 = nI r ∧ D (23 + 7 * a + s) 1 = nI (6 * f + p) ∧ D (23 + 7 * a + s) 2 = nI (v + 1) ∧ D (23 + 7 * a + s) 3 = 0) (ec : D (19 + 7 * a) 7 = nI (v + 1)) (en : ∀ k, k ≠ 4 → k ≠ 5 → k ≠ 19 + 7 * a → k ≠ 23 + 7 * a + s → D k = C k)
    (sn : ∀ k, 34 ≤ k → k ≠ 36 → k ≠ 37 → k ≠ 38 → S k = R k) (s36 : S 36 = upd (R 36) (3 * a + kr_fr R a) (nI (6 * f + p))) (s37 : S 37 = upd (R 37) (3 * a + kr_fr R a) 0) (s38 : S 38 = upd (R 38) a (nI (kr_fr R a + 1))) : ki_J (N + 1) D S ∧ ki_B D S a (L ++ [s]) := by
  have hA := h.2.2.2.2.2 a ha
  have hR := h.1
  obtain ⟨h1, h2, ⟨p1, p2, p3⟩, -, hwd⟩ := hA
  obtain ⟨l1, l2, l3, l4, l5, l6⟩ := hL
  have s35 := sn 35 (by decide) (by decide) (by decide) (by decide)
  have s39 := sn 39 (by decide) (by decide) (by decide) (by decide)
  have s41 := sn 41 (by decide) (by decide) (by decide) (by decide)
  have s42 := sn 42 (by decide) (by decide) (by decide) (by decide)
  have s34 := sn 34 (by decide) (by decide) (by decide) (by decide)
  have hSf : kr_fr S a = kr_fr R a + 1 := by unfold kr_fr; rw [s38, pk_us, nI_clamp (by have : kr_fr R a < 3 := hn; omega)]
  have hS : kr_ok S := by
    obtain ⟨o1, o2, o3, o4, o5⟩ := hR
    refine ⟨?_, ?_, ?_, by rw [s41]; exact o4, by rw [s37]; exact kr_bool_up o5 (Or.inl rfl)⟩
    · unfold kr_bd; rw [s39]; exact o1
    · unfold kr_sz; rw [s35]; exact o2
    · unfold kr_fr; rw [s38]; exact kr_fr_up (by omega) o3
  have dsl : ∀ y, y < 3 → y ≠ s → D (23 + 7 * a + y) = C (23 + 7 * a + y) := fun y hy hys => en _ (by omega) (by omega) (by omega) (by omega)
  have keep : ∀ e, e < 4 → ki_keep C D e := by
    intro e he b hb' q hq hce
    by_cases hb0 : b = 0
    · subst hb0
      have hce : C 4 q = nI e := hce
      have hqr : q ≠ r := fun z => by rw [z, hfree] at hce; exact nI_m1 (by omega) hce.symm
      refine ⟨?_, fun k hk => ?_⟩
      · show D 4 q = nI e
        rw [e4, pk_un hqr]; exact hce
      · show D 5 (4 * q + k) = C 5 (4 * q + k)
        rw [e5, if_neg (by omega)]
    · rw [en (4 + 3 * b) (by omega) (by omega) (by omega) (by omega), en (5 + 3 * b) (by omega) (by omega) (by omega) (by omega)]
      exact ⟨hce, fun _ _ => rfl⟩
  have pl : ∀ i y, L[i]? = some y → i < kr_fr R a ∧ y < 3 ∧ y ≠ s ∧ S 36 (3 * a + i) = R 36 (3 * a + i) ∧ S 37 (3 * a + i) = R 37 (3 * a + i) := by
    intro i y hi
    have hil : i < kr_fr R a := by rw [← l1]; exact (List.getElem?_eq_some_iff.mp hi).1
    refine ⟨hil, l3 y (List.mem_of_getElem? hi), fun q => hsn (by rw [← q]; exact List.mem_of_getElem? hi), by rw [s36, pk_un (by omega)], by rw [s37, pk_un (by omega)]⟩
  have owned : ∀ (i y : Nat), L[i]? = some y → ∃ r1, r1 < 12 ∧ C (23 + 7 * a + y) 0 = nI r1 ∧ C 4 r1 = nI a ∧ r1 ≠ r := by
    intro i y hi
    obtain ⟨-, -, ⟨r1, m3, m4, m5⟩, -⟩ := l5 i y hi
    exact ⟨r1, m3, m4, m5, fun q => by rw [q, hfree] at m5; exact nI_m1 (by omega) m5.symm⟩
  have hB : ki_B D S a (L ++ [s]) := by
    refine ⟨by rw [List.length_append, l1, hSf]; rfl, ka_nd l2 hsn, fun y hy => ?_, fun y hy hn' => ?_, fun i y hi => ?_, fun i k y z hik hi hk => ?_⟩
    · rcases List.mem_append.mp hy with q | q
      · exact l3 y q
      · rw [List.mem_singleton.mp q]; exact hs
    · have hys : y ≠ s := fun q => hn' (List.mem_append.mpr (Or.inr (List.mem_singleton.mpr q)))
      rw [dsl y hy hys]
      exact l4 y hy (fun q => hn' (List.mem_append.mpr (Or.inl q)))
    · rcases ka_app hi with ⟨q1, q2⟩ | ⟨q1, q2⟩
      · obtain ⟨b1, b2, b3, b4, b5⟩ := pl i y q2
        obtain ⟨m1, m2, ⟨r1, m3, m4, m5⟩, ⟨f1, p1', m6, m7, m8, m9⟩, ⟨u, v', m10, m11, m12, m13⟩⟩ := l5 i y q2
        have evv : v' = v := (nI_eq (by omega) (by omega)).mp (m11.symm.trans hv)
        rw [dsl y b2 b3, b4, b5, ec]
        refine ⟨m1, m2, ⟨r1, m3, m4, (keep a (by omega) 0 (by decide) r1 m3 m5).1⟩, ⟨f1, p1', m6, m7, by unfold kr_sz; rw [s35]; exact m8, m9⟩, ⟨u, v + 1, m10, rfl, by omega, by omega⟩⟩
      · rw [l1] at q1
        rw [q2, q1, s36, pk_us, s37, pk_us, ec]
        refine ⟨ez.2.1, ez.2.2.2, ⟨r, hr, ez.1, by rw [e4]; exact pk_us⟩, ⟨f, p, hf, hp, by unfold kr_sz; rw [s35]; exact hval, rfl⟩, ⟨v + 1, v + 1, ez.2.2.1, rfl, Nat.le_refl _, by omega⟩⟩
    · rcases ka_app hi with ⟨q1, q2⟩ | ⟨q1, q2⟩
      · obtain ⟨b1, b2, b3, b4, b5⟩ := pl i y q2
        rcases ka_app hk with ⟨t1, t2⟩ | ⟨t1, t2⟩
        · obtain ⟨c1, c2, c3, c4, c5⟩ := pl k z t2
          rw [dsl y b2 b3, dsl z c2 c3, b4, c4]
          exact l6 i k y z hik q2 t2
        · obtain ⟨m1, m2, m3, m4, ⟨u, v', m10, m11, m12, m13⟩⟩ := l5 i y q2
          have evv : v' = v := (nI_eq (by omega) (by omega)).mp (m11.symm.trans hv)
          obtain ⟨r1, r2, r3, r4, r5⟩ := owned i y q2
          rw [l1] at t1
          rw [t2, t1, dsl y b2 b3, b4, s36, pk_us, ez.2.2.1, ez.1, m10, r3]
          exact ⟨nI_lt (by omega) (by omega), hno i b1, nI_ne (by omega) (by omega) r5⟩
      · rcases ka_app hk with ⟨t1, t2⟩ | ⟨t1, t2⟩ <;> omega
  refine ⟨?_, hB⟩
  refine kj_app (kj_N h) ha hS s39 s41 s42 (sn 43 (by decide) (by decide) (by decide) (by decide)) (sn 44 (by decide) (by decide) (by decide) (by decide)) (fun b hb' q hq => ?_) (fun b hb' e he => ?_) (fun k q1 q2 => en k (by omega) (by omega) (by omega) (by omega)) (fun o ho hoa => ⟨fun k q1 q2 => en k (by omega) (by omega) (by omega) (by omega), fun i _ => by rw [s34], fun f _ => by rw [s35], fun i hi => ⟨by rw [s36, pk_un (by omega)], by rw [s37, pk_un (by omega)]⟩, by rw [s38, pk_un hoa]⟩) (fun e he _ => keep e he) ?_
  · by_cases hb0 : b = 0
    · subst hb0
      show D 4 q = -1 ∨ ∃ e, e < 4 ∧ D 4 q = nI e
      rw [e4]
      unfold upd
      by_cases hqr : q = r
      · rw [if_pos hqr]; exact Or.inr ⟨a, by omega, rfl⟩
      · rw [if_neg hqr]; exact h.2.2.1 0 hb' q hq
    · rw [en _ (by omega) (by omega) (by omega) (by omega)]
      exact h.2.2.1 b hb' q hq
  · have hold := h.2.2.2.1 b hb' e he
    have hcnt : kr_c S e b = kr_c R e b + (if b = 0 ∧ e = a then 1 else 0) := by
      rcases kr_env2 he with he2 | ⟨d, hd, rfl⟩
      · unfold kr_c
        rw [if_pos he2, if_pos he2, kr_b_eq s35]
        by_cases hb0 : b = 0
        · rw [if_pos hb0, if_pos hb0]
          by_cases hea : e = a
          · rw [if_pos ⟨hb0, hea⟩, hea, hSf]
          · rw [if_neg (fun q => hea q.2)]
            unfold kr_fr
            rw [s38, pk_un hea]
            rfl
        · rw [if_neg hb0, if_neg hb0, if_neg (fun q => hb0 q.1)]
          rfl
      · rw [kr_c_g hd, kr_c_g hd, if_neg (by omega)]
        have q := kr_l_eq (R := R) (S := S) (g := d) (b := nI b) (kr_bd R d) (fun u hu => ⟨by rw [s41], by rw [s42]⟩)
        unfold kr_bd at q ⊢
        rw [s39, q]
        rfl
    by_cases hb0 : b = 0
    · subst hb0
      show kp_c (D 4) (nI e) (12 + 12 * 0) = kr_c S e 0
      have h1 := kp_c_upd (f := C 4) (r := r) (x := nI a) (e := nI e) (12 + 12 * 0) (by omega)
      rw [hfree, if_neg (show ¬ (-1 : Int32) = nI e from fun q => nI_m1 (a := e) (by omega) q.symm)] at h1
      have hold : kp_c (C 4) (nI e) (12 + 12 * 0) = kr_c R e 0 := hold
      rw [e4, hcnt]
      by_cases hea : e = a
      · rw [if_pos (by rw [hea])] at h1
        rw [if_pos ⟨rfl, hea⟩]
        omega
      · rw [if_neg (nI_ne (by omega) (by omega) (fun q => hea q.symm))] at h1
        rw [if_neg (fun q => hea q.2)]
        omega
    · rw [en _ (by omega) (by omega) (by omega) (by omega), hold, hcnt, if_neg (fun q => hb0 q.1)]
      rfl
  · refine ⟨⟨by rw [en (20 + 7 * a) (by omega) (by omega) (by omega) (by omega), s35]; exact h1.1, by rw [kr_b_eq s35]; exact h1.2⟩, ⟨v + 1, ec, by omega⟩, ⟨?_, ?_, ?_⟩, ⟨_, hB⟩, ?_⟩
    · rw [en (21 + 7 * a) (by omega) (by omega) (by omega) (by omega), en 7 (by omega) (by omega) (by omega) (by omega)]
      unfold kr_sz
      rw [s35]
      exact p1
    · rw [en (21 + 7 * a) (by omega) (by omega) (by omega) (by omega)]
      unfold kr_sz
      rw [s35]
      exact p2
    · rw [en (21 + 7 * a) (by omega) (by omega) (by omega) (by omega)]
      exact p3
    · intro f0 i0 r0 hf0 hi0 hr0 hr24
      unfold kr_sz at hi0
      rw [s35] at hi0
      have h24 := (hR.2.1 (6 * a + f0) (by omega)).2
      have hi24 : i0 < kr_sz R (6 * a + f0) := hi0
      rw [en (21 + 7 * a) (by omega) (by omega) (by omega) (by omega)] at hr0
      rw [s34, en 8 (by omega) (by omega) (by omega) (by omega)]
      obtain ⟨w1, w2⟩ := hwd f0 i0 r0 hf0 hi0 hr0 hr24
      -- no slot of C holds the part that comes
      have nocache : ∀ y, y < 3 → C (23 + 7 * a + y) 1 ≠ nI (6 * f + p) := by
        intro y hy q
        by_cases hy' : y ∈ L
        · obtain ⟨i, hi⟩ := List.getElem?_of_mem hy'
          exact hno i (pl i y hi).1 ((l5 i y hi).1.symm.trans q)
        · rw [(l4 y hy hy').2.1] at q
          exact nI_m1 (by omega) q.symm
      by_cases hpart : 6 * f0 + i0 / 4 = 6 * f + p
      · have er : r0 = w := (nI_eq (by omega) (by omega)).mp (hr0.symm.trans (by rw [hpart]; exact hb))
        have hw0 := w2 (fun y hy => by rw [hpart]; exact nocache y hy)
        refine ⟨fun y r1 hy hyp hyf hr1 => ?_, fun _ => hw0⟩
        have hys : y = s := by
          by_cases hys : y = s
          · exact hys
          · rw [dsl y hy hys, hpart] at hyp
            exact absurd hyp (nocache y hy)
        subst hys
        have e1 : r1 = r := (nI_eq (by omega) (by omega)).mp (hyf.symm.trans ez.1)
        refine ⟨?_, fun _ => hw0⟩
        rw [e1, e5, if_pos (by omega), show (4 * r + i0 % 4) % 4 = i0 % 4 by omega, ← er]
        exact hw0
      · refine ⟨fun y r1 hy hyp hyf hr1 => ?_, fun hno' => ?_⟩
        · have hys : y ≠ s := fun q => hpart (by
            rw [q, ez.2.1, nI_eq (by omega) (by omega)] at hyp
            exact hyp.symm)
          rw [dsl y hy hys] at hyp hyf ⊢
          have hmem : y ∈ L := by
            by_cases hm : y ∈ L
            · exact hm
            · exfalso
              rw [(l4 y hy hm).2.1] at hyp
              exact nI_m1 (by omega) hyp.symm
          obtain ⟨i, hi⟩ := List.getElem?_of_mem hmem
          obtain ⟨r2, q1, q2, q3, q4⟩ := owned i y hi
          have e1 : r1 = r2 := (nI_eq (by omega) (by omega)).mp (hyf.symm.trans q2)
          rw [e5, if_neg (by omega)]
          exact w1 y r1 hy hyp hyf hr1
        · refine w2 (fun y hy => ?_)
          by_cases hys : y = s
          · rw [hys, (l4 s hs hsn).2.1]
            exact fun q => nI_m1 (by omega) q.symm
          · rw [← dsl y hy hys]
            exact hno' y hy
end
section
/-! storing a slot, squeeze, length -/
/-- the oldest slot is the first of the order -/
theorem ka_oldest {C R : kb_M} {a : Nat} {L : List Nat} (hL : ki_B C R a L) : ka_old C (19 + 7 * a) = (L[0]?).map (fun s => 23 + 7 * a + s) := by
  obtain ⟨l1, l2, l3, l4, l5, l6⟩ := hL
  obtain ⟨o1, o2⟩ := ka_old_spec C (19 + 7 * a)
  have ez : ∀ s, 19 + 7 * a + 4 + s = 23 + 7 * a + s := fun s => by omega
  have full : ∀ (j s : Nat), L[j]? = some s → C (23 + 7 * a + s) 0 ≠ -1 := by
    intro j s hj
    obtain ⟨-, -, ⟨r, r1, r2, -⟩, -⟩ := l5 j s hj
    rw [r2]
    exact nI_m1 (by omega)
  cases hold : ka_old C (19 + 7 * a) with
  | none =>
    cases h0 : L[0]? with
    | none => rfl
    | some s =>
      have := o1 hold s (l3 s (List.mem_of_getElem? h0))
      rw [ez] at this
      exact absurd this (full 0 s h0)
  | some z =>
    obtain ⟨s, s1, s2, s3, s4⟩ := o2 z hold
    rw [ez] at s2
    subst s2
    have hm : s ∈ L := by
      by_cases hm : s ∈ L
      · exact hm
      · exact absurd (l4 s s1 hm).1 s3
    obtain ⟨j, hj⟩ := List.getElem?_of_mem hm
    have hlen := (List.getElem?_eq_some_iff.mp hj).1
    cases h0 : L[0]? with
    | none =>
      rw [List.getElem?_eq_none_iff] at h0
      omega
    | some y =>
      by_cases hj0 : j = 0
      · rw [hj0, h0] at hj
        cases hj
        rfl
      · have hlt := (l6 0 j y s (by omega) h0 hj).1
        have hle := s4 y (l3 y (List.mem_of_getElem? h0)) (by rw [ez]; exact full 0 y h0)
        rw [ez] at hle
        exact absurd hle (Int32.not_le.mpr hlt)
/-- the counters of the applications -/
theorem kz_cnt {N B : Nat} {C D R S : kb_M} (h : ki_Z N B C R) (J : ki_J N D S) (d1 : D 1 = C 1) (d3 : D 3 = C 3) (d6 : D 6 = C 6) (d9 : ∀ k, 9 ≤ k → k ≤ 18 → D k = C k) (e19 : D 19 3 = C 19 3) (e26 : D 26 3 = C 26 3) (x0 : D 19 0 + D 26 0 = S 33 2) (x1 : D 19 1 + D 26 1 = S 33 1) (s33 : S 33 0 = R 33 0) (s39 : S 39 = R 39) (s40 : S 40 = R 40) (s42 : S 42 = R 42) (s43 : S 43 = R 43) : ki_Z N B D S := by
  obtain ⟨-, ⟨n, n1, n2, n3⟩, ⟨k1, k2, k3, k4, k5⟩, hL, -⟩ := h
  refine ⟨J, ⟨n, by rw [s33]; exact n1, n2, fun g t hg ht hs => ?_⟩, ⟨by rw [d1, s33]; exact k1, by rw [d3]; exact k2, by rw [d6]; exact k3, by rw [e19]; exact k4, by rw [e26]; exact k5⟩, fun g hg => by rw [d9 _ (by omega) (by omega), s40]; exact hL g hg, x0, x1⟩
  unfold kr_bd at ht
  rw [s39] at ht
  rw [s42] at hs
  rw [s43]
  exact n3 g t hg ht hs
theorem kr_so_33 (R : kb_M) (j : Nat) : (kr_so R j) 33 0 = R 33 0 ∧ (kr_so R j) 33 2 = R 33 2 ∧ (kr_so R j) 33 1 = (if R 37 j = 0 then R 33 1 else R 33 1 + 1) := by
  have e : (kr_so R j) 33 = upd (R 33) 1 (if R 37 j = 0 then R 33 1 else R 33 1 + 1) := by unfold kr_so; rw [kb_up_ne _ _ _ (by decide), kb_up_at]
  rw [e]
  exact ⟨pk_un (by decide), pk_un (by decide), pk_us⟩
theorem kr_so_ne (R : kb_M) (j : Nat) {k : Nat} (h1 : k ≠ 33) (h2 : k ≠ 37) : (kr_so R j) k = R k := by
  unfold kr_so
  rw [kb_up_ne _ _ _ h2, kb_up_ne _ _ _ h1]
/-- storeIfChanged of the slot at place j -/
theorem kz_store {N B : Nat} {C R : kb_M} (h : ki_Z N B C R) {a : Nat} (ha : a < 2) {L : List Nat} (hL : ki_B C R a L) {j s : Nat} (hj : L[j]? = some s) : kb_E (kb_en kz_App_storeIfChanged [.inr (some (19 + 7 * a)), .inr (some (23 + 7 * a + s))] C) (fun q => q.1 = none ∧ ki_Z N B q.2 (kr_so R (3 * a + j)) ∧ ki_B q.2 (kr_so R (3 * a + j)) a L ∧ (∀ k, k ≠ 8 → k ≠ 19 + 7 * a → k ≠ 23 + 7 * a + s → q.2 k = C k) ∧ (∀ k, k ≠ 1 → q.2 (19 + 7 * a) k = C (19 + 7 * a) k) ∧ (∀ k, k ≠ 3 → q.2 (23 + 7 * a + s) k = C (23 + 7 * a + s) k) ∧ q.2 (23 + 7 * a + s) 3 = 0) := by
  have hR := h.1.1
  obtain ⟨hs3, hj3, r, f, p, w, g1, g2, g3, g4, g5, g6, g7, g8, g9, g10, g11⟩ := ka_slot (h.1.2.2.2.2.2 a ha) hR ha hL hj
  have hc3 : C (23 + 7 * a + s) 3 = R 37 (3 * a + j) := (hL.2.2.2.2.1 j s hj).2.1
  have hz : kq_S (19 + 7 * a) (23 + 7 * a + s) := by unfold kq_S; omega
  by_cases hch : R 37 (3 * a + j) = 0
  · refine kb_E_to (cq_store_no (kq_in ha) hz C (hc3.trans hch)) ?_
    rw [kr_so_same hch]
    exact ⟨rfl, h, hL, fun _ _ _ _ => rfl, fun _ _ => rfl, fun _ _ => rfl, hc3.trans hch⟩
  · obtain ⟨J, hB⟩ := ka_store h.1 ha hL hj g1 g2 g4 g5 g8 g9 g10 hch
    refine kb_E_to (cq_store (kq_in ha) hz C g1 g2 (by omega) g8 g9 (by rw [show 19 + 7 * a + 2 = 21 + 7 * a by omega]; exact g10) (by rw [hc3]; exact hch)) ?_
    have dc : (ka_st C (19 + 7 * a) (23 + 7 * a + s) r w) (19 + 7 * a) = upd (C (19 + 7 * a)) 1 (C (19 + 7 * a) 1 + 1) := by unfold ka_st kp_cp; rw [kb_up_at, kb_up_ne _ _ _ (by omega), kb_ro_ne _ _ (by omega)]
    have dz : (ka_st C (19 + 7 * a) (23 + 7 * a + s) r w) (23 + 7 * a + s) = upd (C (23 + 7 * a + s)) 3 0 := by unfold ka_st kp_cp; rw [kb_up_ne _ _ _ (by omega), kb_up_at, kb_ro_ne _ _ (by omega)]
    have dn : ∀ k, k ≠ 8 → k ≠ 19 + 7 * a → k ≠ 23 + 7 * a + s → (ka_st C (19 + 7 * a) (23 + 7 * a + s) r w) k = C k := fun k q1 q2 q3 => by unfold ka_st kp_cp; rw [kb_up_ne _ _ _ q2, kb_up_ne _ _ _ q3, kb_ro_ne _ _ q1]
    obtain ⟨r0, r1, r2⟩ := kr_so_33 R (3 * a + j)
    rw [if_neg hch] at r2
    obtain ⟨x0, x1⟩ := h.2.2.2.2
    have o19 : ∀ k, k ≠ 1 → (ka_st C (19 + 7 * a) (23 + 7 * a + s) r w) 19 k = C 19 k := by
      intro k hk
      by_cases ha0 : a = 0
      · subst ha0
        show (ka_st C (19 + 7 * 0) (23 + 7 * 0 + s) r w) (19 + 7 * 0) k = C (19 + 7 * 0) k
        rw [dc, pk_un hk]
      · rw [dn 19 (by omega) (by omega) (by omega)]
    have o26 : ∀ k, k ≠ 1 → (ka_st C (19 + 7 * a) (23 + 7 * a + s) r w) 26 k = C 26 k := by
      intro k hk
      by_cases ha1 : a = 1
      · subst ha1
        show (ka_st C (19 + 7 * 1) (23 + 7 * 1 + s) r w) (19 + 7 * 1) k = C (19 + 7 * 1) k
        rw [dc, pk_un hk]
      · rw [dn 26 (by omega) (by omega) (by omega)]
    have sum1 : (ka_st C (19 + 7 * a) (23 + 7 * a + s) r w) 19 1 + (ka_st C (19 + 7 * a) (23 + 7 * a + s) r w) 26 1 = C 19 1 + C 26 1 + 1 := by
      have ha01 : a = 0 ∨ a = 1 := by omega
      rcases ha01 with rfl | rfl
      · have e1 : (ka_st C (19 + 7 * 0) (23 + 7 * 0 + s) r w) 19 = upd (C 19) 1 (C 19 1 + 1) := dc
        rw [e1, pk_us, dn 26 (by omega) (by omega) (by omega), Int32.add_assoc, Int32.add_comm 1, ← Int32.add_assoc]
      · have e1 : (ka_st C (19 + 7 * 1) (23 + 7 * 1 + s) r w) 26 = upd (C 26) 1 (C 26 1 + 1) := dc
        rw [e1, pk_us, dn 19 (by omega) (by omega) (by omega), ← Int32.add_assoc]
    dsimp only
    refine ⟨rfl, ?_, hB, dn, fun k hk => by rw [dc, pk_un hk], fun k hk => by rw [dz, pk_un hk], by rw [dz]; exact pk_us⟩
    refine kz_cnt h J (dn 1 (by omega) (by omega) (by omega)) (dn 3 (by omega) (by omega) (by omega)) (dn 6 (by omega) (by omega) (by omega)) (fun k q1 q2 => dn k (by omega) (by omega) (by omega)) (o19 3 (by decide)) (o26 3 (by decide)) ?_ ?_ r0 (kr_so_ne _ _ (by decide) (by decide)) (kr_so_ne _ _ (by decide) (by decide)) (kr_so_ne _ _ (by decide) (by decide)) (kr_so_ne _ _ (by decide) (by decide))
    · rw [o19 0 (by decide), o26 0 (by decide), r1]; exact x0
    · rw [sum1, r2, x1]
/-- a clean slot leaves: with the rest -/
theorem kz_out {N B : Nat} {C R : kb_M} (h : ki_Z N B C R) {a : Nat} (ha : a < 2) {L : List Nat} (hL : ki_B C R a L) {j s r : Nat} (hj : L[j]? = some s) (hr : r < 12) (hfr : C (23 + 7 * a + s) 0 = nI r) (hch : R 37 (3 * a + j) = 0) : ki_Z N B (ka_gf C (23 + 7 * a + s) r) (kr_rm R a j) ∧ ki_B (ka_gf C (23 + 7 * a + s) r) (kr_rm R a j) a (L.eraseIdx j) := by
  obtain ⟨J, hB⟩ := ka_out h.1 ha hL hj hr hfr hch
  have hs3 := hL.2.2.1 s (List.mem_of_getElem? hj)
  have dn : ∀ k, k ≠ 4 → k ≠ 23 + 7 * a + s → (ka_gf C (23 + 7 * a + s) r) k = C k := fun k q1 q2 => by unfold ka_gf; rw [kb_up_ne _ _ _ q2, kb_up_ne _ _ _ q2, kb_up_ne _ _ _ q2, kb_up_ne _ _ _ q1]
  obtain ⟨sn, -, -, -⟩ := kr_rm_rows R a j
  have s33 := sn 33 (by decide) (by decide) (by decide)
  obtain ⟨x0, x1⟩ := h.2.2.2.2
  have e19 := dn 19 (by omega) (by omega)
  have e26 := dn 26 (by omega) (by omega)
  refine ⟨kz_cnt h J (dn 1 (by omega) (by omega)) (dn 3 (by omega) (by omega)) (dn 6 (by omega) (by omega)) (fun k q1 q2 => dn k (by omega) (by omega)) (by rw [e19]) (by rw [e26]) (by rw [e19, e26, s33]; exact x0) (by rw [e19, e26, s33]; exact x1) (by rw [s33]) (sn 39 (by decide) (by decide) (by decide)) (sn 40 (by decide) (by decide) (by decide)) (sn 42 (by decide) (by decide) (by decide)) (sn 43 (by decide) (by decide) (by decide)), hB⟩
set_option maxRecDepth 100000 in
theorem op_appOf (C : kb_M) {a : Nat} (ha : a < 2) : kb_E (kb_en kz_BK_applicationOf [.inr (some 0), .inl (nI a)] C) (fun q => q = (some (.inr (some (19 + 7 * a))), C)) := by
  refine kb_go 40 [] ?_
  match a, ha with
  | 0, _ =>
    refine And.intro (fun h => absurd h (by decide)) (fun _ => ?_)
    exact And.intro (fun h => absurd h (by decide)) (fun _ => And.intro rfl (And.intro rfl rfl))
  | 1, _ =>
    refine And.intro (fun h => absurd h (by decide)) (fun _ => ?_)
    exact And.intro (fun h => absurd h (by decide)) (fun _ => And.intro rfl (And.intro rfl rfl))
theorem kr_i2 {i : Int32} : (0 ≤ i ∧ i < 2) ↔ (0 ≤ i ∧ i ≤ 1) := by
  constructor
  · intro h
    obtain ⟨k, hk, rfl⟩ := nI_of (Int32.not_lt.mpr h.1)
    have h2 : nI k < nI 2 := h.2
    rw [nI_ltI hk (by omega)] at h2
    exact kr_out (n := 1) (by omega) (by omega)
  · intro h
    obtain ⟨k, hk, rfl⟩ := kr_in i (n := 1) (by decide) h
    exact ⟨h.1, nI_lt (b := 2) (by omega) (by omega)⟩
set_option maxRecDepth 100000 in
theorem op_appOf_no (C : kb_M) {v : Int32} (hv : ¬ (0 ≤ v ∧ v ≤ 1)) : kb_E (kb_en kz_BK_applicationOf [.inr (some 0), .inl v] C) (fun q => q = (some (.inr none), C)) := by
  refine kb_go 40 [] ?_
  refine And.intro (fun _ => And.intro rfl rfl) (fun h => ?_)
  have h : ¬ v < 0 := of_decide_eq_false h
  refine And.intro (fun _ => And.intro rfl rfl) (fun h2 => ?_)
  have h2 : ¬ 2 ≤ v := of_decide_eq_false h2
  exact absurd (kr_i2.mp ⟨Int32.not_lt.mp h, Int32.not_le.mp h2⟩) hv
set_option maxRecDepth 100000 in
theorem op_giveUp {N B : Nat} {C R : kb_M} (h : ki_Z N B C R) {a : Nat} (ha : a < 2) : kb_E (kb_en kz_App_giveUpOldestFrame [.inr (some (19 + 7 * a))] C) (fun q => ∃ y, (y = 0 ∨ y = 1) ∧ q.1 = some (.inl y) ∧ some (.inl y) = (kr_sq R a).1 ∧ ki_Z N B q.2 (kr_sq R a).2) := by
  obtain ⟨L, hL⟩ := (h.1.2.2.2.2.2 a ha).2.2.2.1
  have O := cq_oldest (kq_in ha) C
  rw [ka_oldest hL] at O
  have hlen := hL.1
  unfold kr_sq
  cases h0 : L[0]? with
  | none =>
    rw [h0] at O
    rw [List.getElem?_eq_none_iff] at h0
    rw [if_pos (by omega)]
    match a, ha with
    | 0, _ =>
      refine kb_go 40 [] ?_
      refine kb_E_to O ?_
      exact And.intro rfl ⟨0, Or.inl rfl, rfl, rfl, h⟩
    | 1, _ =>
      refine kb_go 40 [] ?_
      refine kb_E_to O ?_
      exact And.intro rfl ⟨0, Or.inl rfl, rfl, rfl, h⟩
  | some s =>
    rw [h0] at O
    have hlt := (List.getElem?_eq_some_iff.mp h0).1
    rw [if_neg (by omega)]
    have hs3 := hL.2.2.1 s (List.mem_of_getElem? h0)
    obtain ⟨-, -, r, -, -, -, g1, g2, -⟩ := ka_slot (h.1.2.2.2.2.2 a ha) h.1.1 ha hL h0
    have S := kz_store h ha hL h0
    -- behind the store
    have fin : ∀ M, ki_Z N B M (kr_so R (3 * a + 0)) ∧ ki_B M (kr_so R (3 * a + 0)) a L ∧ M (23 + 7 * a + s) 0 = nI r → kb_E (kb_en kz_App_giveFrameBack [.inr (some (19 + 7 * a)), .inr (some (23 + 7 * a + s))] M) (fun q => q.1 = none ∧ ki_Z N B q.2 (kr_rm (kr_so R (3 * a)) a 0)) := by
      intro M ⟨m1, m2, m3⟩
      refine kb_E_to (cq_giveFrameBack (kq_in ha) (by unfold kq_S; omega) M g1 m3) ⟨rfl, ?_⟩
      refine (kz_out m1 ha m2 h0 g1 m3 ?_).1
      unfold kr_so
      rw [kb_up_at]
      exact pk_us
    have ha01 : a = 0 ∨ a = 1 := by omega
    have hs01 : s = 0 ∨ s = 1 ∨ s = 2 := by omega
    rcases ha01 with rfl | rfl <;> rcases hs01 with rfl | rfl | rfl
    all_goals
      refine kb_go 40 [] ?_
      refine kb_E_to O ?_
      refine kb_E_then S (fun v M hq => ?_)
      obtain ⟨q1, q2, q3, q4, q5, q6, q7⟩ := hq
      dsimp only at q1 q2 q3 q4 q5 q6 q7
      subst q1
      refine kb_E_then (fin M ⟨q2, q3, by rw [q6 0 (by decide)]; exact g2⟩) (fun v2 M2 hq2 => ?_)
      obtain ⟨t1, t2⟩ := hq2
      dsimp only at t1 t2
      subst t1
      exact And.intro rfl ⟨1, Or.inr rfl, rfl, rfl, t2⟩
set_option maxRecDepth 100000 in
theorem op_squeeze {N : Nat} {C R : kb_M} (h : ki_V N C R) {a : Nat} (ha : a < 2) : kb_E (kb_en kz_BK_squeeze [.inr (some 0), .inl (nI a)] C) (fun q => q.1 = (kr_sq R a).1 ∧ ki_V N q.2 (kr_sq R a).2) := by
  have W := op_giveUp (kz_V.mp h) ha
  refine kb_go 40 [] ?_
  refine kb_E_to (op_appOf C ha) ?_
  have ha01 : a = 0 ∨ a = 1 := by omega
  rcases ha01 with rfl | rfl
  all_goals
    refine kb_E_then W (fun v M hq => ?_)
    obtain ⟨y, y1, y2, y3, y4⟩ := hq
    dsimp only at y2 y4
    subst y2
    rcases y1 with rfl | rfl
    · exact And.intro (fun _ => And.intro rfl ⟨y3, y4⟩) (fun h => absurd h (by decide))
    · exact And.intro (fun h => absurd h (by decide)) (fun _ => And.intro rfl ⟨y3, y4⟩)
set_option maxRecDepth 100000 in
theorem op_squeeze_no {C : kb_M} {v : Int32} (hv : ¬ (0 ≤ v ∧ v ≤ 1)) : kb_E (kb_en kz_BK_squeeze [.inr (some 0), .inl v] C) (fun q => q = (some (.inl 0), C)) := by
  refine kb_go 40 [] ?_
  refine kb_E_to (op_appOf_no C hv) ?_
  exact And.intro rfl rfl
end
section
/-! a part is opened -/
theorem ka_so_spec (C : kb_M) (c : Nat) (p : Int32) : (ka_so C c p = none → ∀ s, s < 3 → C (c + 4 + s) 1 ≠ p) ∧ (∀ z, ka_so C c p = some z → ∃ s, s < 3 ∧ z = c + 4 + s ∧ C z 1 = p) := by
  unfold ka_so
  by_cases h0 : C (c + 4) 1 = p
  · rw [if_pos h0]
    exact ⟨fun q => (by cases q), fun z hz => ⟨0, by decide, (Option.some.inj hz).symm, by rw [← Option.some.inj hz]; exact h0⟩⟩
  · rw [if_neg h0]
    by_cases h1 : C (c + 5) 1 = p
    · rw [if_pos h1]
      exact ⟨fun q => (by cases q), fun z hz => ⟨1, by decide, (Option.some.inj hz).symm, by rw [← Option.some.inj hz]; exact h1⟩⟩
    · rw [if_neg h1]
      by_cases h2 : C (c + 6) 1 = p
      · rw [if_pos h2]
        exact ⟨fun q => (by cases q), fun z hz => ⟨2, by decide, (Option.some.inj hz).symm, by rw [← Option.some.inj hz]; exact h2⟩⟩
      · rw [if_neg h2]
        refine ⟨fun _ s hs => ?_, fun z hz => (by cases hz)⟩
        match s, hs with
        | 0, _ => exact h0
        | 1, _ => exact h1
        | 2, _ => exact h2
def ka_sf (C : kb_M) (c : Nat) (p : Int32) : Option Nat := match ka_so C c p with
  | some z => some z
  | none => match ka_so C c (-1) with
    | some z => some z
    | none => ka_old C c
set_option maxRecDepth 100000 in
theorem cq_slotFor {c : Nat} (hc : kq_P c) (C : kb_M) (p : Int32) : kb_E (kb_en kz_App_slotFor [.inr (some c), .inl p] C) (fun q => q = (some (.inr (ka_sf C c p)), C)) := by
  have S1 := cq_slotOf hc C p
  have S2 := cq_slotOf hc C (-1)
  have O := cq_oldest hc C
  unfold ka_sf
  cases h1 : ka_so C c p with
  | some z =>
    rw [h1] at S1
    rcases hc with rfl | rfl
    all_goals
      refine kb_go 40 [] ?_
      refine kb_E_to S1 ?_
      exact And.intro rfl rfl
  | none =>
    rw [h1] at S1
    cases h2 : ka_so C c (-1) with
    | some z =>
      rw [h2] at S2
      rcases hc with rfl | rfl
      all_goals
        refine kb_go 40 [] ?_
        refine kb_E_to S1 ?_
        refine kb_E_to S2 ?_
        exact And.intro rfl rfl
    | none =>
      rw [h2] at S2
      rcases hc with rfl | rfl
      all_goals
        refine kb_go 40 [] ?_
        refine kb_E_to S1 ?_
        refine kb_E_to S2 ?_
        refine kb_E_to O ?_
        exact And.intro rfl rfl
/-- a cached part's slot is found -/
theorem ka_sf_hit {C R : kb_M} {a : Nat} {L : List Nat} (hL : ki_B C R a L) {j s : Nat} (hj : L[j]? = some s) {q : Nat} (hq : q < 36) (hp : R 36 (3 * a + j) = nI q) : ka_sf C (19 + 7 * a) (nI q) = some (23 + 7 * a + s) := by
  obtain ⟨l1, l2, l3, l4, l5, l6⟩ := hL
  have ez : ∀ s, 19 + 7 * a + 4 + s = 23 + 7 * a + s := fun s => by omega
  obtain ⟨o1, o2⟩ := ka_so_spec C (19 + 7 * a) (nI q)
  unfold ka_sf
  cases h1 : ka_so C (19 + 7 * a) (nI q) with
  | none =>
    exfalso
    have := o1 h1 s (l3 s (List.mem_of_getElem? hj))
    rw [ez] at this
    exact this ((l5 j s hj).1.trans hp)
  | some z =>
    obtain ⟨y, y1, y2, y3⟩ := o2 z h1
    rw [ez] at y2
    subst y2
    have hm : y ∈ L := by
      by_cases hm : y ∈ L
      · exact hm
      · rw [(l4 y y1 hm).2.1] at y3
        exact absurd y3.symm (nI_m1 (by omega))
    obtain ⟨i, hi⟩ := List.getElem?_of_mem hm
    have hpi := (l5 i y hi).1.symm.trans y3
    by_cases hij : i = j
    · rw [hij, hj] at hi
      cases hi
      rfl
    · exfalso
      by_cases hlt : i < j
      · exact (l6 i j y s hlt hi hj).2.1 (hpi.trans hp.symm)
      · exact (l6 j i s y (by omega) hj hi).2.1 (hp.trans hpi.symm)
/-- a part that isn't cached: an empty slot, or the oldest -/
theorem ka_sf_miss {C R : kb_M} {a : Nat} {L : List Nat} (hL : ki_B C R a L) {q : Nat} (hq : q < 36) (hno : ∀ j, j < kr_fr R a → R 36 (3 * a + j) ≠ nI q) : (L.length < 3 → ∃ s, s < 3 ∧ s ∉ L ∧ ka_sf C (19 + 7 * a) (nI q) = some (23 + 7 * a + s)) ∧ (¬ L.length < 3 → ka_sf C (19 + 7 * a) (nI q) = (L[0]?).map (fun s => 23 + 7 * a + s)) := by
  have hold := ka_oldest hL
  obtain ⟨l1, l2, l3, l4, l5, l6⟩ := hL
  have ez : ∀ s, 19 + 7 * a + 4 + s = 23 + 7 * a + s := fun s => by omega
  have h1 : ka_so C (19 + 7 * a) (nI q) = none := by
    obtain ⟨o1, o2⟩ := ka_so_spec C (19 + 7 * a) (nI q)
    cases h1 : ka_so C (19 + 7 * a) (nI q) with
    | none => rfl
    | some z =>
      exfalso
      obtain ⟨y, y1, y2, y3⟩ := o2 z h1
      rw [ez] at y2
      subst y2
      by_cases hm : y ∈ L
      · obtain ⟨i, hi⟩ := List.getElem?_of_mem hm
        exact hno i (by rw [← l1]; exact (List.getElem?_eq_some_iff.mp hi).1) ((l5 i y hi).1.symm.trans y3)
      · rw [(l4 y y1 hm).2.1] at y3
        exact nI_m1 (by omega) y3.symm
  obtain ⟨o1, o2⟩ := ka_so_spec C (19 + 7 * a) (-1)
  have mem_part : ∀ y, y ∈ L → C (23 + 7 * a + y) 1 ≠ -1 := by
    intro y hy
    obtain ⟨i, hi⟩ := List.getElem?_of_mem hy
    obtain ⟨m1, -, -, ⟨f, p, f1, f2, f3, f4⟩, -⟩ := l5 i y hi
    rw [m1, f4]
    exact nI_m1 (by omega)
  have full : ¬ L.length < 3 → ∀ y, y < 3 → y ∈ L := by
    intro hlen y hy
    match L, hlen, l2, l3 with
    | x :: x2 :: x3 :: L', _, hnd, h3 =>
      have a1 := h3 x (by simp)
      have a2 := h3 x2 (by simp)
      have a3 := h3 x3 (by simp)
      simp only [List.nodup_cons, List.mem_cons, not_or] at hnd
      have : y = x ∨ y = x2 ∨ y = x3 := by omega
      rcases this with rfl | rfl | rfl <;> simp
    | [], hlen, _, _ => exact absurd (by simp) hlen
    | [_], hlen, _, _ => exact absurd (by simp) hlen
    | [_, _], hlen, _, _ => exact absurd (by simp) hlen
  unfold ka_sf
  rw [h1]
  refine ⟨fun hlen => ?_, fun hlen => ?_⟩
  · cases h2 : ka_so C (19 + 7 * a) (-1) with
    | some z =>
      obtain ⟨y, y1, y2, y3⟩ := o2 z h2
      rw [ez] at y2
      subst y2
      exact ⟨y, y1, fun q => mem_part y q y3, rfl⟩
    | none =>
      exfalso
      have all : ∀ y, y < 3 → y ∈ L := by
        intro y hy
        by_cases hm : y ∈ L
        · exact hm
        · have := o1 h2 y hy
          rw [ez] at this
          exact absurd (l4 y hy hm).2.1 this
      have b0 := all 0 (by decide)
      have b1 := all 1 (by decide)
      have b2 := all 2 (by decide)
      match L, hlen, b0, b1, b2 with
      | [], _, b0, _, _ => cases b0
      | [x], _, b0, b1, _ =>
        have c0 := List.mem_singleton.mp b0
        have c1 := List.mem_singleton.mp b1
        omega
      | [x, x2], _, b0, b1, b2 =>
        simp only [List.mem_cons, List.not_mem_nil, or_false] at b0 b1 b2
        omega
  · cases h2 : ka_so C (19 + 7 * a) (-1) with
    | some z =>
      exfalso
      obtain ⟨y, y1, y2, y3⟩ := o2 z h2
      rw [ez] at y2
      subst y2
      exact mem_part y (full hlen y y1) y3
    | none => exact hold
/-- the slot is marked as used -/
def ka_fin (M : kb_M) (c z : Nat) : kb_M := kb_up (kb_up M c 7 (M c 7 + 1)) z 2 (M c 7 + 1)
set_option maxRecDepth 100000 in
theorem cq_tail1 {c z : Nat} (hc : kq_P c) (hz : kq_S c z) (C : kb_M) {p : Int32} (x1 x2 : Option kb_v) (h0 : C z 0 ≠ -1) (h1 : C z 1 = p) : kb_E (kz_App_openPartOf, 46, [some (.inr (some c)), x1, x2, some (.inl p), some (.inr (some z))], [], C) (fun q => q = (some (.inr (some z)), ka_fin C c z)) := by
  have E := cq_isEmpty hc hz C
  rw [if_neg h0] at E
  have e7 : (kb_up C c 7 (C c 7 + 1)) c 7 = C c 7 + 1 := by rw [kb_up_at]; exact pk_us
  unfold ka_fin
  rcases hc with rfl | rfl <;> rcases hz with rfl | rfl | rfl
  all_goals
    refine kb_go 60 [] ?_
    refine kb_E_to E ?_
    refine And.intro (fun _ => ?_) (fun h => absurd h (by decide))
    refine And.intro (fun _ => ?_) (fun h => absurd h1 (of_decide_eq_false h))
    refine And.intro rfl ?_
    show (some (Sum.inr _), kb_up (kb_up C _ 7 (C _ 7 + 1)) _ 2 ((kb_up C _ 7 (C _ 7 + 1)) _ 7)) = _
    rw [e7]
set_option maxRecDepth 100000 in
theorem cq_tail4 {c z r q w : Nat} (hc : kq_P c) (hz : kq_S c z) (M : kb_M) (x1 x2 : Option kb_v) (hr : r < 12) (hf : M z 0 = nI r) (hq : q < 36) (hw : w < 24) (hb : M (c + 2) q = nI w) : kb_E (kz_App_openPartOf, 86, [some (.inr (some c)), x1, x2, some (.inl (nI q)), some (.inr (some z))], [], M) (fun t => t = (some (.inr (some z)), ka_fin (ka_ld M c z r w (nI q)) c z)) := by
  have Ld := cq_load hc hz M hr hf hq hw hb
  generalize ka_ld M c z r w (nI q) = K at Ld ⊢
  have e7 : (kb_up K c 7 (K c 7 + 1)) c 7 = K c 7 + 1 := by rw [kb_up_at]; exact pk_us
  unfold ka_fin
  rcases hc with rfl | rfl <;> rcases hz with rfl | rfl | rfl
  all_goals
    refine kb_go 60 [] ?_
    refine kb_E_to Ld ?_
    refine And.intro rfl ?_
    show (some (Sum.inr _), kb_up (kb_up K _ 7 (K _ 7 + 1)) _ 2 ((kb_up K _ 7 (K _ 7 + 1)) _ 7)) = _
    rw [e7]
end
section
/-! openPartOf against the reference's open -/
theorem kz_up {N B : Nat} {C R : kb_M} (h : ki_Z N B C R) : ki_Z (N + 1) (B + 5) C R := by
  obtain ⟨h1, ⟨n, n1, n2, n3⟩, h3⟩ := h
  exact ⟨kj_N h1, ⟨n, n1, by omega, n3⟩, h3⟩
theorem ka_fl_rows (M : kb_M) (c z r w : Nat) (p : Int32) (hcz : c ≠ z) (hc : 19 ≤ c) (hz : 19 ≤ z) : (ka_fin (ka_ld M c z r w p) c z) 5 = va_cpy (M 8) (M 5) (4 * w) (4 * r) 4 ∧ (ka_fin (ka_ld M c z r w p) c z) z = upd (upd (upd (M z) 1 p) 3 0) 2 (M c 7 + 1) ∧ (ka_fin (ka_ld M c z r w p) c z) c = upd (upd (M c) 0 (M c 0 + 1)) 7 (M c 7 + 1) ∧ (∀ k, k ≠ 5 → k ≠ c → k ≠ z → (ka_fin (ka_ld M c z r w p) c z) k = M k) := by
  have e5 : (ka_ld M c z r w p) 5 = va_cpy (M 8) (M 5) (4 * w) (4 * r) 4 := by unfold ka_ld kp_cp; rw [kb_up_ne _ _ _ (by omega), kb_up_ne _ _ _ (by omega), kb_up_ne _ _ _ (by omega), kb_ro_at]
  have ez : (ka_ld M c z r w p) z = upd (upd (M z) 1 p) 3 0 := by unfold ka_ld kp_cp; rw [kb_up_ne _ _ _ (fun q => hcz q.symm), kb_up_at, kb_up_at, kb_ro_ne _ _ (by omega)]
  have ec : (ka_ld M c z r w p) c = upd (M c) 0 (M c 0 + 1) := by unfold ka_ld kp_cp; rw [kb_up_at, kb_up_ne _ _ _ hcz, kb_up_ne _ _ _ hcz, kb_ro_ne _ _ (by omega)]
  have en : ∀ k, k ≠ 5 → k ≠ c → k ≠ z → (ka_ld M c z r w p) k = M k := fun k q1 q2 q3 => by unfold ka_ld kp_cp; rw [kb_up_ne _ _ _ q2, kb_up_ne _ _ _ q3, kb_up_ne _ _ _ q3, kb_ro_ne _ _ q1]
  unfold ka_fin
  rw [ec, show upd (M c) 0 (M c 0 + 1) 7 = M c 7 from pk_un (by decide)]
  refine ⟨?_, ?_, ?_, fun k q1 q2 q3 => ?_⟩
  · rw [kb_up_ne _ _ _ (by omega), kb_up_ne _ _ _ (by omega), e5]
  · rw [kb_up_at, kb_up_ne _ _ _ (fun q => hcz q.symm), ez]
  · rw [kb_up_ne _ _ _ hcz, kb_up_at, ec]
  · rw [kb_up_ne _ _ _ q3, kb_up_ne _ _ _ q2, en k q1 q2 q3]
theorem ka_sum {C D : kb_M} {a : Nat} (ha : a < 2) {k : Nat} (h1 : D (19 + 7 * a) k = C (19 + 7 * a) k + 1) (h2 : ∀ o, o < 2 → o ≠ a → D (19 + 7 * o) k = C (19 + 7 * o) k) : D 19 k + D 26 k = C 19 k + C 26 k + 1 := by
  have ha01 : a = 0 ∨ a = 1 := by omega
  rcases ha01 with rfl | rfl
  · have e1 : D 19 k = C 19 k + 1 := h1
    have e2 : D 26 k = C 26 k := h2 1 (by decide) (by decide)
    rw [e1, e2, Int32.add_assoc, Int32.add_comm 1, ← Int32.add_assoc]
  · have e1 : D 26 k = C 26 k + 1 := h1
    have e2 : D 19 k = C 19 k := h2 0 (by decide) (by decide)
    rw [e1, e2, ← Int32.add_assoc]
theorem ka_same {C D : kb_M} {a : Nat} (ha : a < 2) {k : Nat} (h1 : D (19 + 7 * a) k = C (19 + 7 * a) k) (h2 : ∀ o, o < 2 → o ≠ a → D (19 + 7 * o) k = C (19 + 7 * o) k) : D 19 k = C 19 k ∧ D 26 k = C 26 k := by
  have ha01 : a = 0 ∨ a = 1 := by omega
  rcases ha01 with rfl | rfl
  · exact ⟨h1, h2 1 (by decide) (by decide)⟩
  · exact ⟨h2 0 (by decide) (by decide), h1⟩
/-- a load, given by its memory before (M) and the tied picture of it without the part (C', R') -/
theorem kz_load {N B : Nat} {C' M R' : kb_M} (h : ki_Z N B C' R') (hN : N ≤ 600) {a : Nat} (ha : a < 2) {L : List Nat} (hL : ki_B C' R' a L) {s r f p w : Nat} (hs : s < 3) (hsn : s ∉ L) (hn : kr_fr R' a < 3) (hr : r < 12) (hfree : C' 4 r = -1) (hf : f < 6) (hp : p < 6) (hval : 4 * p < kr_sz R' (6 * a + f)) (hw : w < 24) (hb : C' (21 + 7 * a) (6 * f + p) = nI w) (hno : ∀ j, j < kr_fr R' a → R' 36 (3 * a + j) ≠ nI (6 * f + p))
    (m4 : M 4 = upd (C' 4) r (nI a)) (m5 : ∀ q, q / 4 ≠ r → M 5 q = C' 5 q) (mz : M (23 + 7 * a + s) 0 = nI r) (mn : ∀ k, k ≠ 4 → k ≠ 5 → k ≠ 23 + 7 * a + s → M k = C' k) : ki_Z (N + 1) B (ka_fin (ka_ld M (19 + 7 * a) (23 + 7 * a + s) r w (nI (6 * f + p))) (19 + 7 * a) (23 + 7 * a + s)) (kr_ad (kb_up R' 33 2 (R' 33 2 + 1)) a (nI (6 * f + p)) 0) ∧ ki_B (ka_fin (ka_ld M (19 + 7 * a) (23 + 7 * a + s) r w (nI (6 * f + p))) (19 + 7 * a) (23 + 7 * a + s)) (kr_ad (kb_up R' 33 2 (R' 33 2 + 1)) a (nI (6 * f + p)) 0) a (L ++ [s]) := by
  obtain ⟨u, u1, u2⟩ := (h.1.2.2.2.2.2 a ha).2.1
  obtain ⟨r5, rz, rc, rn⟩ := ka_fl_rows M (19 + 7 * a) (23 + 7 * a + s) r w (nI (6 * f + p)) (by omega) (by omega) (by omega)
  obtain ⟨an, a38, a36, a37⟩ := kr_ad_rows (kb_up R' 33 2 (R' 33 2 + 1)) a (nI (6 * f + p)) 0
  have up : ∀ k, k ≠ 33 → (kb_up R' 33 2 (R' 33 2 + 1)) k = R' k := fun k hk => kb_up_ne _ _ _ hk
  have fru : kr_fr (kb_up R' 33 2 (R' 33 2 + 1)) a = kr_fr R' a := by unfold kr_fr; rw [up 38 (by decide)]
  rw [fru] at a36 a37
  rw [up 36 (by decide)] at a36
  rw [up 37 (by decide)] at a37
  rw [up 38 (by decide)] at a38
  generalize hDe : ka_fin (ka_ld M (19 + 7 * a) (23 + 7 * a + s) r w (nI (6 * f + p))) (19 + 7 * a) (23 + 7 * a + s) = D at *
  generalize hSe : kr_ad (kb_up R' 33 2 (R' 33 2 + 1)) a (nI (6 * f + p)) 0 = S at *
  have mc := mn (19 + 7 * a) (by omega) (by omega) (by omega)
  have sn : ∀ k, k ≠ 33 → k ≠ 36 → k ≠ 37 → k ≠ 38 → S k = R' k := fun k q0 q1 q2 q3 => by rw [an k q1 q2 q3, up k q0]
  have s33 : S 33 = upd (R' 33) 2 (R' 33 2 + 1) := by rw [an 33 (by decide) (by decide) (by decide), kb_up_at]
  obtain ⟨J, hB⟩ := ka_in (D := D) (S := S) h.1 hN ha hL (v := u) hs hsn hn hr hfree hf hp hval hw hb hno u1 u2
    (by rw [rn 4 (by omega) (by omega) (by omega)]; exact m4)
    (fun q => by
      rw [r5, mn 8 (by omega) (by omega) (by omega)]
      by_cases hq : q / 4 = r
      · rw [if_pos hq, pk_cpy_in (by omega) (by omega)]
        congr 1
        omega
      · rw [if_neg hq, pk_cpy_out (by omega)]
        exact m5 q hq)
    ⟨by rw [rz, pk_un (by decide), pk_un (by decide), pk_un (by decide)]; exact mz, by rw [rz, pk_un (by decide), pk_un (by decide), pk_us], by rw [rz, pk_us, mc, u1, nI_succ], by rw [rz, pk_un (by decide), pk_us]⟩
    (by rw [rc, pk_us, mc, u1, nI_succ])
    (fun k q1 q2 q3 q4 => by rw [rn k q2 q3 q4, mn k q1 q2 q4])
    (fun k q0 q1 q2 q3 => sn k (by omega) q1 q2 q3) a36 a37 (by rw [a38, (h.1.1.2.2.1 a ha).1, ← nI_succ])
  refine ⟨?_, hB⟩
  have hz1 : ki_Z (N + 1) B C' R' := ⟨kj_N h.1, h.2⟩
  have oth : ∀ o, o < 2 → o ≠ a → ∀ k, D (19 + 7 * o) k = C' (19 + 7 * o) k := fun o ho hoa k => by rw [rn _ (by omega) (by omega) (by omega), mn _ (by omega) (by omega) (by omega)]
  obtain ⟨x0, x1⟩ := h.2.2.2.2
  have e3 := ka_same (D := D) (C := C') ha (k := 3) (by rw [rc, pk_un (by decide), pk_un (by decide), mc]) (fun o ho hoa => oth o ho hoa 3)
  have e1 := ka_same (D := D) (C := C') ha (k := 1) (by rw [rc, pk_un (by decide), pk_un (by decide), mc]) (fun o ho hoa => oth o ho hoa 1)
  have e0 := ka_sum (D := D) (C := C') ha (k := 0) (by rw [rc, pk_un (by decide), pk_us, mc]) (fun o ho hoa => oth o ho hoa 0)
  have dn : ∀ k, k ≠ 4 → k < 5 ∨ (5 < k ∧ k < 19) → D k = C' k := fun k q1 q2 => by rw [rn k (by omega) (by omega) (by omega), mn k q1 (by omega) (by omega)]
  refine kz_cnt hz1 J (dn 1 (by omega) (by omega)) (dn 3 (by omega) (by omega)) (dn 6 (by omega) (by omega)) (fun k q1 q2 => dn k (by omega) (by omega)) e3.1 e3.2 ?_ ?_ ?_ (sn 39 (by decide) (by decide) (by decide) (by decide)) (sn 40 (by decide) (by decide) (by decide) (by decide)) (sn 42 (by decide) (by decide) (by decide) (by decide)) (sn 43 (by decide) (by decide) (by decide) (by decide))
  · rw [e0, s33, pk_us, x0]
  · rw [e1.1, e1.2, s33, pk_un (by decide)]; exact x1
  · rw [s33, pk_un (by decide)]
end
section
/-! openPartOf: the whole -/
theorem ko_part {f i : Nat} (hf : f < 6) (hi : i < 24) : nI f * (Int8.ofInt 6).toInt32 + nI i / Int32.ofInt 4 = nI (6 * f + i / 4) := by
  rw [Int32.mul_comm, show Int32.ofInt 4 = nI 4 from rfl, pk_div (by omega) (by omega) (by omega), kr_6 hf]
set_option maxRecDepth 100000 in
theorem cq_open0 {c f i z : Nat} (hc : kq_P c) (C : kb_M) {Q : kb_R → Prop} (hf : f < 6) (hi : i < 24) (hlen : nI i < C (c + 1) f) (hz : ka_sf C c (nI (6 * f + i / 4)) = some z) (K : kb_E (kz_App_openPartOf, 46, [some (.inr (some c)), some (.inl (nI f)), some (.inl (nI i)), some (.inl (nI (6 * f + i / 4))), some (.inr (some z))], [], C) Q) : kb_E (kb_en kz_App_openPartOf [.inr (some c), .inl (nI f), .inl (nI i)] C) Q := by
  have F := cq_isFile C (nI f)
  have h5 : 0 ≤ nI f ∧ nI f ≤ 5 := kr_out (n := 5) (by omega) (by omega)
  rw [if_pos h5] at F
  have S := cq_slotFor hc C (nI (6 * f + i / 4))
  rw [hz, ← ko_part hf hi] at S
  rw [← ko_part hf hi] at K
  have hcl : (nI f).toNatClampNeg = f := nI_clamp (by omega)
  rcases hc with rfl | rfl
  all_goals
    refine kb_go 60 [46] ?_
    refine kb_E_to F ?_
    refine And.intro (fun h => absurd h (by decide)) (fun _ => ?_)
    refine And.intro (fun h => absurd (of_decide_eq_true h) (nI_pos (by omega))) (fun _ => ?_)
    refine And.intro (kb_in_nI (by omega) (by omega)) ?_
    refine And.intro (fun _ => ?_) (fun h => absurd (by rw [hcl]; exact hlen) (of_decide_eq_false h))
    refine And.intro rfl ?_
    refine kb_E_to S ?_
    exact K
/-- the counter and the use of a found slot -/
theorem ka_fin_eq {M : kb_M} {c z v : Nat} (hv : M c 7 = nI v) : ka_fin M c z = kb_up (kb_up M c 7 (nI (v + 1))) z 2 (nI (v + 1)) := by
  unfold ka_fin
  rw [hv, nI_succ]
/-- what a call of openPartOf leaves -/
def ko_P (N B : Nat) (S : kb_M) (a q : Nat) (t : kb_R) : Prop := ∃ s L, s < 3 ∧ t.1 = some (.inr (some (23 + 7 * a + s))) ∧ ki_Z N B t.2 S ∧ ki_B t.2 S a L ∧ L[kr_fr S a - 1]? = some s ∧ S 36 (3 * a + kr_fr S a - 1) = nI q

theorem ko_last {S : kb_M} {D : kb_M} {a s : Nat} {L : List Nat} (hB : ki_B D S a (L ++ [s])) : (L ++ [s])[kr_fr S a - 1]? = some s := by
  have h := hB.1
  rw [List.length_append] at h
  rw [List.getElem?_append_right (by simp at h; omega)]
  simp at h
  have : kr_fr S a - 1 - L.length = 0 := by omega
  rw [this]
  rfl
/-- a cached part -/
theorem ko_hit {N B : Nat} {C R : kb_M} (h : ki_Z N B C R) (hN : N ≤ 600) {a : Nat} (ha : a < 2) {L : List Nat} (hL : ki_B C R a L) {j s q : Nat} (hj : L[j]? = some s) (hq : R 36 (3 * a + j) = nI q) : ko_P (N + 1) (B + 5) (kr_ad (kr_rm R a j) a (nI q) (R 37 (3 * a + j))) a q (some (.inr (some (23 + 7 * a + s))), ka_fin C (19 + 7 * a) (23 + 7 * a + s)) := by
  obtain ⟨u, u1, u2⟩ := (h.1.2.2.2.2.2 a ha).2.1
  have hs3 := hL.2.2.1 s (List.mem_of_getElem? hj)
  obtain ⟨J, hB⟩ := ka_touch h.1 hN ha hL hj u1 u2
  have hjl := (List.getElem?_eq_some_iff.mp hj).1
  have hll := hL.1
  have hle := (h.1.1.2.2.1 a ha).2
  obtain ⟨o1, o2⟩ := kr_rm_ok h.1.1 ha (j := j) (by rw [← hL.1]; exact hjl)
  rw [hq, ← ka_fin_eq u1] at J hB
  have rn : ∀ k, k ≠ 19 + 7 * a → k ≠ 23 + 7 * a + s → (ka_fin C (19 + 7 * a) (23 + 7 * a + s)) k = C k := fun k q1 q2 => by unfold ka_fin; rw [kb_up_ne _ _ _ q2, kb_up_ne _ _ _ q1]
  have rc : (ka_fin C (19 + 7 * a) (23 + 7 * a + s)) (19 + 7 * a) = upd (C (19 + 7 * a)) 7 (C (19 + 7 * a) 7 + 1) := by unfold ka_fin; rw [kb_up_ne _ _ _ (by omega), kb_up_at]
  obtain ⟨an, a38, a36, a37⟩ := kr_ad_rows (kr_rm R a j) a (nI q) (R 37 (3 * a + j))
  obtain ⟨sn, -, -, -⟩ := kr_rm_rows R a j
  have e := fun k (hk : k ≠ 7) => ka_same (D := ka_fin C (19 + 7 * a) (23 + 7 * a + s)) (C := C) ha (k := k) (by rw [rc, pk_un hk]) (fun o ho hoa => by rw [rn _ (by omega) (by omega)])
  have s33 : (kr_ad (kr_rm R a j) a (nI q) (R 37 (3 * a + j))) 33 = R 33 := by rw [an 33 (by decide) (by decide) (by decide), sn 33 (by decide) (by decide) (by decide)]
  obtain ⟨x0, x1⟩ := h.2.2.2.2
  have hz1 : ki_Z (N + 1) B C R := ⟨kj_N h.1, h.2⟩
  have ef : kr_fr (kr_ad (kr_rm R a j) a (nI q) (R 37 (3 * a + j))) a = kr_fr (kr_rm R a j) a + 1 := (kr_ad_ok o1 ha (by omega) (p := nI q) (h.1.1.2.2.2.2 (3 * a + j) (by omega))).2
  have hZ : ki_Z (N + 1) B (ka_fin C (19 + 7 * a) (23 + 7 * a + s)) (kr_ad (kr_rm R a j) a (nI q) (R 37 (3 * a + j))) := by
    refine kz_cnt hz1 J (rn 1 (by omega) (by omega)) (rn 3 (by omega) (by omega)) (rn 6 (by omega) (by omega)) (fun k q1 q2 => rn k (by omega) (by omega)) (e 3 (by decide)).1 (e 3 (by decide)).2 ?_ ?_ ?_ ?_ ?_ ?_ ?_
    · rw [(e 0 (by decide)).1, (e 0 (by decide)).2, s33]; exact x0
    · rw [(e 1 (by decide)).1, (e 1 (by decide)).2, s33]; exact x1
    · rw [s33]
    · rw [an 39 (by decide) (by decide) (by decide), sn 39 (by decide) (by decide) (by decide)]
    · rw [an 40 (by decide) (by decide) (by decide), sn 40 (by decide) (by decide) (by decide)]
    · rw [an 42 (by decide) (by decide) (by decide), sn 42 (by decide) (by decide) (by decide)]
    · rw [an 43 (by decide) (by decide) (by decide), sn 43 (by decide) (by decide) (by decide)]
  obtain ⟨h1, ⟨n, n1, n2, n3⟩, h3⟩ := hZ
  refine ⟨s, _, hs3, rfl, ⟨h1, ⟨n, n1, by omega, n3⟩, h3⟩, hB, ko_last hB, ?_⟩
  rw [a36, ef, show 3 * a + (kr_fr (kr_rm R a j) a + 1) - 1 = 3 * a + kr_fr (kr_rm R a j) a by omega]
  exact pk_us
set_option maxRecDepth 100000 in
theorem cq_open1 {a s : Nat} (ha : a < 2) (hs : s < 3) (C : kb_M) {p : Int32} (x1 x2 : Option kb_v) {Q Q1 : kb_R → Prop} (h0 : C (23 + 7 * a + s) 0 = -1) (W : kb_E (kb_en kz_Kernel_bindForApplication [.inr (some 1), .inl (C (19 + 7 * a) 3), .inl (nI 0)] C) Q1) (K : ∀ v M, Q1 (v, M) → ∃ r, v = some (.inl (nI r)) ∧ M (23 + 7 * a + s) 1 ≠ p ∧ M (23 + 7 * a + s) 3 = 0 ∧ kb_E (kz_App_openPartOf, 86, [some (.inr (some (19 + 7 * a))), x1, x2, some (.inl p), some (.inr (some (23 + 7 * a + s)))], [], kb_up M (23 + 7 * a + s) 0 (nI r)) Q) : kb_E (kz_App_openPartOf, 46, [some (.inr (some (19 + 7 * a))), x1, x2, some (.inl p), some (.inr (some (23 + 7 * a + s)))], [], C) Q := by
  have hz : kq_S (19 + 7 * a) (23 + 7 * a + s) := by unfold kq_S; omega
  have E := cq_isEmpty (kq_in ha) hz C
  rw [if_pos h0] at E
  have G := fun (M : kb_M) (r : Nat) (hm : M (23 + 7 * a + s) 3 = 0) => cq_store_no (kq_in ha) hz (kb_up M (23 + 7 * a + s) 0 (nI r)) (by rw [kb_up_at, pk_un (by decide)]; exact hm)
  have e1 : ∀ (M : kb_M) (r : Nat), (kb_up M (23 + 7 * a + s) 0 (nI r)) (23 + 7 * a + s) 1 = M (23 + 7 * a + s) 1 := fun M r => by rw [kb_up_at, pk_un (by decide)]
  have ha01 : a = 0 ∨ a = 1 := by omega
  have hs01 : s = 0 ∨ s = 1 ∨ s = 2 := by omega
  rcases ha01 with rfl | rfl <;> rcases hs01 with rfl | rfl | rfl
  all_goals
    refine kb_go 60 [86] ?_
    refine kb_E_to E ?_
    refine And.intro (fun h => absurd h (by decide)) (fun _ => ?_)
    refine kb_E_then W (fun v M hq => ?_)
    obtain ⟨r, k1, k2, k3, k4⟩ := K v M hq
    subst k1
    refine And.intro (fun h => absurd ((e1 M r).symm.trans (of_decide_eq_true h)) k2) (fun _ => ?_)
    refine kb_E_to (G M r k3) ?_
    exact k4
set_option maxRecDepth 100000 in
theorem cq_open2 {a s : Nat} (ha : a < 2) (hs : s < 3) (C : kb_M) {p : Int32} (x1 x2 : Option kb_v) {Q Q1 : kb_R → Prop} (h0 : C (23 + 7 * a + s) 0 ≠ -1) (h1 : C (23 + 7 * a + s) 1 ≠ p) (W : kb_E (kb_en kz_App_storeIfChanged [.inr (some (19 + 7 * a)), .inr (some (23 + 7 * a + s))] C) Q1) (K : ∀ v M, Q1 (v, M) → v = none ∧ kb_E (kz_App_openPartOf, 86, [some (.inr (some (19 + 7 * a))), x1, x2, some (.inl p), some (.inr (some (23 + 7 * a + s)))], [], M) Q) : kb_E (kz_App_openPartOf, 46, [some (.inr (some (19 + 7 * a))), x1, x2, some (.inl p), some (.inr (some (23 + 7 * a + s)))], [], C) Q := by
  have hz : kq_S (19 + 7 * a) (23 + 7 * a + s) := by unfold kq_S; omega
  have E := cq_isEmpty (kq_in ha) hz C
  rw [if_neg h0] at E
  have ha01 : a = 0 ∨ a = 1 := by omega
  have hs01 : s = 0 ∨ s = 1 ∨ s = 2 := by omega
  rcases ha01 with rfl | rfl <;> rcases hs01 with rfl | rfl | rfl
  all_goals
    refine kb_go 60 [86] ?_
    refine kb_E_to E ?_
    refine And.intro (fun _ => ?_) (fun h => absurd h (by decide))
    refine And.intro (fun h => absurd (of_decide_eq_true h) h1) (fun _ => ?_)
    refine kb_E_then W (fun v M hq => ?_)
    obtain ⟨k1, k2⟩ := K v M hq
    subst k1
    exact k2
end
section
/-! openPartOf against the reference's open: the three cases -/
theorem ko_add36 {S : kb_M} (o1 : kr_ok S) {a : Nat} (ha : a < 2) (hn : kr_fr S a < 3) (p : Int32) {d : Int32} (hd : d = 0 ∨ d = 1) : (kr_ad S a p d) 36 (3 * a + kr_fr (kr_ad S a p d) a - 1) = p := by
  obtain ⟨an, a38, a36, a37⟩ := kr_ad_rows S a p d
  rw [(kr_ad_ok o1 ha hn (p := p) hd).2, a36, show 3 * a + (kr_fr S a + 1) - 1 = 3 * a + kr_fr S a by omega]
  exact pk_us
set_option maxHeartbeats 1000000 in
theorem op_open {N B : Nat} {C R : kb_M} (h : ki_Z N B C R) (hN : N ≤ 600) (hB : B + 10 < 2 ^ 30) {a f i : Nat} (ha : a < 2) (hf : f < 6) (hi : i < kr_sz R (6 * a + f)) : kb_E (kb_en kz_App_openPartOf [.inr (some (19 + 7 * a)), .inl (nI f), .inl (nI i)] C) (ko_P (N + 1) (B + 5) (kr_op R a (6 * f + i / 4)) a (6 * f + i / 4)) := by
  have hR := h.1.1
  have hA := h.1.2.2.2.2.2 a ha
  obtain ⟨L, hL⟩ := hA.2.2.2.1
  have hlen := hL.1
  have hle := (hR.2.2.1 a ha).2
  have h24 := (hR.2.1 (6 * a + f) (by omega)).2
  have hi24 : i < 24 := by omega
  have hq : 6 * f + i / 4 < 36 := by omega
  have hltn : nI i < C (19 + 7 * a + 1) f := by
    rw [show 19 + 7 * a + 1 = 20 + 7 * a by omega, hA.1.1 f hf, (hR.2.1 (6 * a + f) (by omega)).1]
    exact nI_lt hi (by omega)
  unfold kr_op
  cases hl : kr_fi R a (nI (6 * f + i / 4)) (kr_fr R a) with
  | some j =>
    obtain ⟨hj, hp⟩ := kr_fi_lt hl
    obtain ⟨s, hs⟩ : ∃ s, L[j]? = some s := ⟨L[j]'(by omega), List.getElem?_eq_getElem (by omega)⟩
    obtain ⟨hs3, hj3, r, -, -, -, g1, g2, -, -, -, -, -, -, -⟩ := ka_slot hA hR ha hL hs
    refine cq_open0 (kq_in ha) C hf hi24 hltn (ka_sf_hit hL hs hq hp) ?_
    refine kb_E_to (cq_tail1 (kq_in ha) (by unfold kq_S; omega) C _ _ (by rw [g2]; exact nI_m1 (by omega)) ((hL.2.2.2.2.1 j s hs).1.trans hp)) ?_
    exact ko_hit h hN ha hL hs hp
  | none =>
    have hno := kr_fi_no hl
    obtain ⟨o1, o2⟩ := kr_o2_ok hR ha
    obtain ⟨m1, m2⟩ := ka_sf_miss hL hq hno
    by_cases h3 : kr_fr R a = 3
    · -- the oldest makes room
      have m2 := m2 (by omega)
      obtain ⟨s, hs⟩ : ∃ s, L[0]? = some s := ⟨L[0]'(by omega), List.getElem?_eq_getElem (by omega)⟩
      rw [hs] at m2
      obtain ⟨hs3, -, r, -, -, -, g1, g2, -, -, -, -, -, -, -⟩ := ka_slot hA hR ha hL hs
      have hp0 : C (23 + 7 * a + s) 1 ≠ nI (6 * f + i / 4) := by
        rw [(hL.2.2.2.2.1 0 s hs).1]
        exact hno 0 (by omega)
      refine cq_open0 (kq_in ha) C hf hi24 hltn m2 ?_
      refine cq_open2 ha hs3 C _ _ (by rw [g2]; exact nI_m1 (by omega)) hp0 (kz_store h ha hL hs) (fun v M hq1 => ?_)
      obtain ⟨q1, q2, q3, q4, q5, q6, q7⟩ := hq1
      dsimp only at q1 q2 q3 q4 q5 q6 q7
      refine ⟨q1, ?_⟩
      have mz : M (23 + 7 * a + s) 0 = nI r := by rw [q6 0 (by decide)]; exact g2
      have c37 : (kr_so R (3 * a + 0)) 37 (3 * a + 0) = 0 := by unfold kr_so; rw [kb_up_at]; exact pk_us
      obtain ⟨hZ, hB2⟩ := kz_out q2 ha q3 hs g1 mz c37
      have e1 : kr_o1 R a = kr_rm (kr_so R (3 * a + 0)) a 0 := by unfold kr_o1; rw [if_pos h3]; rfl
      have e2 : kr_o2 R a = kb_up (kr_rm (kr_so R (3 * a + 0)) a 0) 33 2 ((kr_rm (kr_so R (3 * a + 0)) a 0) 33 2 + 1) := by unfold kr_o2; rw [e1]
      obtain ⟨rn, -, r36, -⟩ := kr_rm_rows (kr_so R (3 * a + 0)) a 0
      have fr2 := (kr_rm_ok (kr_so_ok hR (3 * a + 0)) (j := 0) ha (by rw [kr_so_fr]; omega)).2
      rw [kr_so_fr] at fr2 r36
      have s35 : (kr_rm (kr_so R (3 * a + 0)) a 0) 35 = R 35 := by rw [rn 35 (by decide) (by decide) (by decide), kr_so_ne _ _ (by decide) (by decide)]
      have hval : 4 * (i / 4) < kr_sz (kr_rm (kr_so R (3 * a + 0)) a 0) (6 * a + f) := by
        unfold kr_sz
        rw [s35]
        have : (R 35 (6 * a + f)).toNatClampNeg = kr_sz R (6 * a + f) := rfl
        omega
      obtain ⟨w, w1, w2, w3⟩ := (hZ.1.2.2.2.2.2 a ha).2.2.1.1 f (i / 4) hf (by omega) hval
      have gn : ∀ k, k ≠ 4 → k ≠ 23 + 7 * a + s → (ka_gf M (23 + 7 * a + s) r) k = M k := fun k q1 q2 => by unfold ka_gf; rw [kb_up_ne _ _ _ q2, kb_up_ne _ _ _ q2, kb_up_ne _ _ _ q2, kb_up_ne _ _ _ q1]
      have g4 : (ka_gf M (23 + 7 * a + s) r) 4 = upd (M 4) r (-1) := by unfold ka_gf; rw [kb_up_ne _ _ _ (by omega), kb_up_ne _ _ _ (by omega), kb_up_ne _ _ _ (by omega), kb_up_at]
      have hown : M 4 r = nI a := by
        obtain ⟨r', t1, t2, t3⟩ := (q3.2.2.2.2.1 0 s hs).2.2.1
        have : r = r' := (nI_eq (by omega) (by omega)).mp (mz.symm.trans t2)
        rw [this]
        exact t3
      obtain ⟨z1, z2⟩ := kz_load (M := M) hZ hN ha hB2 (s := s) (r := r) (f := f) (p := i / 4) (w := w) hs3 (fun hm => ((ka_er_mem hL.2.1 hs).mp hm).2 rfl) (by omega) g1 (by rw [g4]; exact pk_us) hf (by omega) hval w1 w2
        (fun j hj => by
          rw [r36, if_pos (by omega), kr_so_ne _ _ (by decide) (by decide)]
          exact hno (j + 1) (by omega))
        (by
          rw [g4]
          funext y
          by_cases hy : y = r
          · rw [hy, pk_us, hown]
          · rw [pk_un hy, pk_un hy])
        (fun y hy => by rw [gn 5 (by omega) (by omega)]) mz (fun k k1 k2 k3 => (gn k k1 k3).symm)
      refine kb_E_to (cq_tail4 (kq_in ha) (by unfold kq_S; omega) M _ _ g1 mz hq w1 (by rw [show 19 + 7 * a + 2 = 21 + 7 * a by omega, ← gn _ (by omega) (by omega)]; exact w2)) ?_
      rw [← e2] at z1 z2
      obtain ⟨y1, ⟨n, n1, n2, n3⟩, y3⟩ := z1
      exact ⟨s, _, hs3, rfl, ⟨y1, ⟨n, n1, by omega, n3⟩, y3⟩, z2, ko_last z2, ko_add36 o1 ha o2 _ (Or.inl rfl)⟩
    · -- a frame is bound
      obtain ⟨s, hs3, hsn, m1⟩ := m1 (by omega)
      obtain ⟨c0, c1, c3⟩ := hL.2.2.2.1 s hs3 hsn
      have hK : C (19 + 7 * a) 3 = nI a := by
        obtain ⟨-, -, -, k4, k5⟩ := h.2.2.1
        have ha01 : a = 0 ∨ a = 1 := by omega
        rcases ha01 with rfl | rfl
        · exact k4
        · exact k5
      have W := ck_bindApp h hB ha (b := 0) (by decide) (by unfold kr_c; rw [if_pos ha, if_pos rfl]; omega)
      rw [← hK] at W
      refine cq_open0 (kq_in ha) C hf hi24 hltn m1 ?_
      refine cq_open1 ha hs3 C _ _ c0 W (fun v M hq1 => ?_)
      obtain ⟨r, D, r1, r2, d1, d2, e⟩ := hq1
      rw [hK] at e
      cases e
      have dz : D (23 + 7 * a + s) = C (23 + 7 * a + s) := d2 _ (by omega) (by omega) (by omega) (by omega) (by omega) (by omega) (by omega) (by omega) (by omega)
      have bnz : (kx_bn D 0 r (nI a)) (23 + 7 * a + s) = C (23 + 7 * a + s) := by unfold kx_bn; rw [kb_ro_ne _ _ (by omega), kb_up_ne _ _ _ (by omega), dz]
      refine ⟨r, rfl, by rw [bnz, c1]; exact fun q => nI_m1 (a := 6 * f + i / 4) (by omega) q.symm, by rw [bnz]; exact c3, ?_⟩
      obtain ⟨L2, hL2⟩ := (d1.1.2.2.2.2.2 a ha).2.2.2.1
      have e1 : kr_o1 R a = kr_cm R 0 := by unfold kr_o1; rw [if_neg h3]
      have e2 : kr_o2 R a = kb_up (kr_cm R 0) 33 2 ((kr_cm R 0) 33 2 + 1) := by unfold kr_o2; rw [e1]
      have s35 : (kr_cm R 0) 35 = R 35 := kr_cm_ne R 0 (by decide) (by decide) (by decide) (by decide)
      have s36 : (kr_cm R 0) 36 = R 36 := kr_cm_ne R 0 (by decide) (by decide) (by decide) (by decide)
      have s38 : kr_fr (kr_cm R 0) a = kr_fr R a := by unfold kr_fr; rw [kr_cm_ne R 0 (by decide) (by decide) (by decide) (by decide)]
      have hval : 4 * (i / 4) < kr_sz (kr_cm R 0) (6 * a + f) := by
        unfold kr_sz
        rw [s35]
        have : (R 35 (6 * a + f)).toNatClampNeg = kr_sz R (6 * a + f) := rfl
        omega
      obtain ⟨w, w1, w2, w3⟩ := (d1.1.2.2.2.2.2 a ha).2.2.1.1 f (i / 4) hf (by omega) hval
      have hsn2 : s ∉ L2 := by
        intro hm
        obtain ⟨j, hj⟩ := List.getElem?_of_mem hm
        obtain ⟨-, -, ⟨r', t1, t2, -⟩, -⟩ := hL2.2.2.2.2.1 j s hj
        rw [dz, c0] at t2
        exact nI_m1 (a := r') (by omega) t2.symm
      have mk : ∀ k, k ≠ 4 → k ≠ 5 → k ≠ 23 + 7 * a + s → (kb_up (kx_bn D 0 r (nI a)) (23 + 7 * a + s) 0 (nI r)) k = D k := fun k k1 k2 k3 => by unfold kx_bn; rw [kb_up_ne _ _ _ k3, kb_ro_ne _ _ (by omega), kb_up_ne _ _ _ (by omega)]
      have mz : (kb_up (kx_bn D 0 r (nI a)) (23 + 7 * a + s) 0 (nI r)) (23 + 7 * a + s) 0 = nI r := by rw [kb_up_at]; exact pk_us
      obtain ⟨z1, z2⟩ := kz_load (M := kb_up (kx_bn D 0 r (nI a)) (23 + 7 * a + s) 0 (nI r)) d1 hN ha hL2 (s := s) (r := r) (f := f) (p := i / 4) (w := w) hs3 hsn2 (by omega) (by omega) r2 hf (by omega) hval w1 w2 (fun j hj => by rw [s36]; exact hno j (by omega))
        (by unfold kx_bn; rw [kb_up_ne _ _ _ (by omega), kb_ro_ne _ _ (by omega), kb_up_at])
        (fun y hy => by
          have e5 : (kb_up (kx_bn D 0 r (nI a)) (23 + 7 * a + s) 0 (nI r)) 5 = fun j => if j / 4 = r then 0 else D 5 j := by rw [kb_up_ne _ _ _ (by omega)]; exact kb_ro_at _ _ _
          rw [e5]
          exact if_neg hy) mz mk
      refine kb_E_to (cq_tail4 (kq_in ha) (by unfold kq_S; omega) _ _ _ (by omega) mz hq w1 (by rw [show 19 + 7 * a + 2 = 21 + 7 * a by omega, mk _ (by omega) (by omega) (by omega)]; exact w2)) ?_
      rw [← e2] at z1 z2
      exact ⟨s, _, hs3, rfl, z1, z2, ko_last z2, ko_add36 o1 ha o2 _ (Or.inl rfl)⟩
end
section
/-! a word of a cached part: read, changed -/
set_option maxHeartbeats 1000000 in
/-- a word of the part in the slot at place j is changed -/
theorem ka_write {N : Nat} {C R : kb_M} (h : ki_J N C R) {a : Nat} (ha : a < 2) {L : List Nat} (hL : ki_B C R a L) {j s r f i : Nat} (w : Int32) (hj : L[j]? = some s) (hr : r < 12) (hfr : C (23 + 7 * a + s) 0 = nI r) (hf : f < 6) (hi : i < kr_sz R (6 * a + f)) (hpt : C (23 + 7 * a + s) 1 = nI (6 * f + i / 4)) : ki_J N (kb_up (kb_up C (23 + 7 * a + s) 3 1) 5 (4 * r + i % 4) w) (kb_up (kb_up R 34 (144 * a + 24 * f + i) w) 37 (3 * a + j) 1) ∧ ki_B (kb_up (kb_up C (23 + 7 * a + s) 3 1) 5 (4 * r + i % 4) w) (kb_up (kb_up R 34 (144 * a + 24 * f + i) w) 37 (3 * a + j) 1) a L := by
  have hA := h.2.2.2.2.2 a ha
  have hR := h.1
  obtain ⟨hs3, hj3, r', -, -, -, g1, g2, g3, -⟩ := ka_slot hA hR ha hL hj
  have er : r = r' := (nI_eq (by omega) (by omega)).mp (hfr.symm.trans g2)
  subst er
  have h24 := (hR.2.1 (6 * a + f) (by omega)).2
  obtain ⟨h1, h2, ⟨p1, p2, p3⟩, -, hwd⟩ := hA
  obtain ⟨l1, l2, l3, l4, l5, l6⟩ := hL
  generalize hD : kb_up (kb_up C (23 + 7 * a + s) 3 1) 5 (4 * r + i % 4) w = D
  generalize hS : kb_up (kb_up R 34 (144 * a + 24 * f + i) w) 37 (3 * a + j) 1 = S
  have d5 : D 5 = upd (C 5) (4 * r + i % 4) w := by rw [← hD, kb_up_at, kb_up_ne _ _ _ (by omega)]
  have dz : D (23 + 7 * a + s) = upd (C (23 + 7 * a + s)) 3 1 := by rw [← hD, kb_up_ne _ _ _ (by omega), kb_up_at]
  have dn : ∀ k, k ≠ 5 → k ≠ 23 + 7 * a + s → D k = C k := fun k q1 q2 => by rw [← hD, kb_up_ne _ _ _ q1, kb_up_ne _ _ _ q2]
  have dsl : ∀ y q, y < 3 → q ≠ 3 → D (23 + 7 * a + y) q = C (23 + 7 * a + y) q := by
    intro y q hy hq
    by_cases hys : y = s
    · rw [hys, dz, pk_un hq]
    · rw [dn _ (by omega) (by omega)]
  have sn : ∀ k, k ≠ 34 → k ≠ 37 → S k = R k := fun k q1 q2 => by rw [← hS, kb_up_ne _ _ _ q2, kb_up_ne _ _ _ q1]
  have s37 : S 37 = upd (R 37) (3 * a + j) 1 := by rw [← hS, kb_up_at, kb_up_ne _ _ _ (by decide)]
  have s34 : S 34 = upd (R 34) (144 * a + 24 * f + i) w := by rw [← hS, kb_up_ne _ _ _ (by decide), kb_up_at]
  have hSok : kr_ok S := by
    obtain ⟨k1, k2, k3, k4, k5⟩ := hR
    unfold kr_ok kr_bd kr_sz kr_fr at *
    refine ⟨?_, ?_, ?_, ?_, fun q hq => ?_⟩
    · rw [sn 39 (by decide) (by decide)]; exact k1
    · rw [sn 35 (by decide) (by decide)]; exact k2
    · rw [sn 38 (by decide) (by decide)]; exact k3
    · rw [sn 41 (by decide) (by decide)]; exact k4
    · rw [s37]
      by_cases hqj : q = 3 * a + j
      · rw [hqj, pk_us]; exact Or.inr rfl
      · rw [pk_un hqj]; exact k5 q hq
  have hB : ki_B D S a L := by
    refine ⟨by rw [l1]; unfold kr_fr; rw [sn 38 (by decide) (by decide)], l2, l3, fun y hy hn => ?_, fun i y hi => ?_, fun i k y z hik hi hk => ?_⟩
    · have hys : y ≠ s := fun q => hn (by rw [q]; exact List.mem_of_getElem? hj)
      rw [dn _ (by omega) (by omega)]
      exact l4 y hy hn
    · have hy := l3 y (List.mem_of_getElem? hi)
      obtain ⟨q1, q2, ⟨r1, r2, r3, r4⟩, ⟨f1, p1', q6, q7, q8, q9⟩, ⟨u, v, q10, q11, q12⟩⟩ := l5 i y hi
      rw [dsl y 0 hy (by decide), dsl y 1 hy (by decide), dsl y 2 hy (by decide), dn 4 (by omega) (by omega), sn 36 (by decide) (by decide), dn (19 + 7 * a) (by omega) (by omega)]
      refine ⟨q1, ?_, ⟨r1, r2, r3, r4⟩, ⟨f1, p1', q6, q7, by unfold kr_sz; rw [sn 35 (by decide) (by decide)]; exact q8, q9⟩, ⟨u, v, q10, q11, q12⟩⟩
      rw [s37]
      by_cases hys : y = s
      · have hij : i = j := ka_inj l2 hi (by rw [hys]; exact hj)
        rw [hys, dz, hij, pk_us, pk_us]
      · have hij : i ≠ j := fun q => hys (by
          rw [q, hj] at hi
          exact (Option.some.inj hi).symm)
        rw [dn _ (by omega) (by omega), pk_un (by omega)]
        exact q2
    · have hy := l3 y (List.mem_of_getElem? hi)
      have hz := l3 z (List.mem_of_getElem? hk)
      rw [dsl y 2 hy (by decide), dsl z 2 hz (by decide), dsl y 0 hy (by decide), dsl z 0 hz (by decide), sn 36 (by decide) (by decide)]
      exact l6 i k y z hik hi hk
  refine ⟨?_, hB⟩
  refine kj_app h ha hSok (sn 39 (by decide) (by decide)) (sn 41 (by decide) (by decide)) (sn 42 (by decide) (by decide)) (sn 43 (by decide) (by decide)) (sn 44 (by decide) (by decide)) (fun b hb' q hq => ?_) (kn_same h.2.2.2.1 (fun b hb' => dn _ (by omega) (by omega)) (sn 35 (by decide) (by decide)) (sn 38 (by decide) (by decide)) (sn 39 (by decide) (by decide)) (sn 41 (by decide) (by decide)) (sn 42 (by decide) (by decide))) (fun k q1 q2 => dn k (by omega) (by omega)) (fun o ho hoa => ⟨fun k q1 q2 => dn k (by omega) (by omega), fun y _ => by rw [s34, pk_un (by omega)], fun f _ => by rw [sn 35 (by decide) (by decide)], fun i hi => ⟨by rw [sn 36 (by decide) (by decide)], by rw [s37, pk_un (by omega)]⟩, by rw [sn 38 (by decide) (by decide)]⟩) (fun e he hea => ?_) ?_
  · rw [dn _ (by omega) (by omega)]
    exact h.2.2.1 b hb' q hq
  · intro b hb' q hq hce
    rw [dn (4 + 3 * b) (by omega) (by omega)]
    refine ⟨hce, fun k hk => ?_⟩
    by_cases hb0 : b = 0
    · subst hb0
      have hqw : q ≠ r := fun z => by
        have hce : C 4 q = nI e := hce
        rw [z, g3, nI_eq (by omega) (by omega)] at hce
        exact hea hce.symm
      show D 5 (4 * q + k) = C 5 (4 * q + k)
      rw [d5, pk_un (by omega)]
    · rw [dn (5 + 3 * b) (by omega) (by omega)]
  · refine ⟨⟨by rw [dn (20 + 7 * a) (by omega) (by omega), sn 35 (by decide) (by decide)]; exact h1.1, by rw [kr_b_eq (sn 35 (by decide) (by decide))]; exact h1.2⟩, by rw [dn (19 + 7 * a) (by omega) (by omega)]; exact h2, ⟨?_, ?_, ?_⟩, ⟨L, hB⟩, ?_⟩
    · rw [dn (21 + 7 * a) (by omega) (by omega), dn 7 (by omega) (by omega)]
      unfold kr_sz
      rw [sn 35 (by decide) (by decide)]
      exact p1
    · rw [dn (21 + 7 * a) (by omega) (by omega)]
      unfold kr_sz
      rw [sn 35 (by decide) (by decide)]
      exact p2
    · rw [dn (21 + 7 * a) (by omega) (by omega)]
      exact p3
    · intro f0 i0 r0 hf0 hi0 hr0 hr24
      unfold kr_sz at hi0
      rw [sn 35 (by decide) (by decide)] at hi0
      have h240 := (hR.2.1 (6 * a + f0) (by omega)).2
      have hi24 : i0 < kr_sz R (6 * a + f0) := hi0
      rw [dn (21 + 7 * a) (by omega) (by omega)] at hr0
      rw [dn 8 (by omega) (by omega)]
      obtain ⟨w1, w2⟩ := hwd f0 i0 r0 hf0 hi0 hr0 hr24
      refine ⟨fun y r1 hy hyp hyf hr1 => ?_, fun hno => ?_⟩
      · rw [dsl y 1 hy (by decide)] at hyp
        rw [dsl y 0 hy (by decide)] at hyf
        obtain ⟨v1, v2⟩ := w1 y r1 hy hyp hyf hr1
        by_cases hys : y = s
        · subst hys
          have e1 : r1 = r := (nI_eq (by omega) (by omega)).mp (hyf.symm.trans hfr)
          have e2 : 6 * f0 + i0 / 4 = 6 * f + i / 4 := (nI_eq (by omega) (by omega)).mp (hyp.symm.trans hpt)
          have e3 : f0 = f := by omega
          subst e3
          subst e1
          refine ⟨?_, fun hc => ?_⟩
          · rw [d5, s34]
            by_cases hii : i0 = i
            · rw [hii, pk_us, pk_us]
            · rw [pk_un (by omega), pk_un (by omega)]
              exact v1
          · rw [dz, pk_us] at hc
            exact absurd hc (by decide)
        · have hym : y ∈ L := by
            by_cases hm : y ∈ L
            · exact hm
            · have := (l4 y hy hm).1
              rw [hyf] at this
              exact absurd this (nI_m1 (by omega))
          obtain ⟨k, hk⟩ := List.getElem?_of_mem hym
          have hkj : k ≠ j := fun q => hys (by
            rw [q, hj] at hk
            exact (Option.some.inj hk).symm)
          have hdf : C (23 + 7 * a + y) 0 ≠ C (23 + 7 * a + s) 0 ∧ C (23 + 7 * a + y) 1 ≠ C (23 + 7 * a + s) 1 := by
            rw [(l5 k y hk).1, (l5 j s hj).1]
            by_cases hlt : k < j
            · obtain ⟨-, x1, x2⟩ := l6 k j y s hlt hk hj
              exact ⟨x2, x1⟩
            · obtain ⟨-, x1, x2⟩ := l6 j k s y (by omega) hj hk
              exact ⟨fun q => x2 q.symm, fun q => x1 q.symm⟩
          rw [hyf, hfr, hyp, hpt] at hdf
          have e1 : r1 ≠ r := fun q => hdf.1 (by rw [q])
          have e2 : 6 * f0 + i0 / 4 ≠ 6 * f + i / 4 := fun q => hdf.2 (by rw [q])
          rw [d5, s34, pk_un (by omega), pk_un (by omega), dn (23 + 7 * a + y) (by omega) (by omega)]
          exact ⟨v1, v2⟩
      · have e2 : 6 * f0 + i0 / 4 ≠ 6 * f + i / 4 := fun q => hno s hs3 (by rw [dsl s 1 hs3 (by decide), hpt, q])
        rw [s34, pk_un (by omega)]
        exact w2 (fun y hy => by rw [← dsl y 1 hy (by decide)]; exact hno y hy)
end
section
/-! read, write, length -/
theorem kr_o2_ne (R : kb_M) (a : Nat) {k : Nat} (h : k = 34 ∨ k = 35) : (kr_o2 R a) k = R k := by
  unfold kr_o2
  rw [kb_up_ne _ _ _ (by omega)]
  unfold kr_o1
  split
  next => rw [(kr_rm_rows _ _ _).1 k (by omega) (by omega) (by omega), kr_so_ne _ _ (by omega) (by omega)]
  next => exact kr_cm_ne R 0 (by omega) (by omega) (by omega) (by omega)
theorem kr_op_ne (R : kb_M) (a p : Nat) {k : Nat} (h : k = 34 ∨ k = 35) : (kr_op R a p) k = R k := by
  unfold kr_op
  cases kr_fi R a (nI p) (kr_fr R a) with
  | some j =>
    show (kr_ad (kr_rm R a j) a (nI p) (R 37 (3 * a + j))) k = R k
    rw [(kr_ad_rows _ _ _ _).1 k (by omega) (by omega) (by omega), (kr_rm_rows _ _ _).1 k (by omega) (by omega) (by omega)]
  | none =>
    show (kr_ad (kr_o2 R a) a (nI p) 0) k = R k
    rw [(kr_ad_rows _ _ _ _).1 k (by omega) (by omega) (by omega), kr_o2_ne R a h]
theorem ko_rem {i : Nat} (hi : i < 24) : nI i - nI i / Int32.ofInt 4 * Int32.ofInt 4 = nI (i % 4) := by
  rw [show Int32.ofInt 4 = nI 4 from rfl, pk_rem (by omega) (by omega) (by omega)]
theorem ko_04 (i : Nat) : 0 ≤ nI (i % 4) ∧ nI (i % 4) < 4 := ⟨nI_pos' (by omega), nI_lt (b := 4) (by omega) (by omega)⟩
set_option maxRecDepth 100000 in
theorem cq_change {a s r i : Nat} (ha : a < 2) (hs : s < 3) (C : kb_M) (w : Int32) (hr : r < 12) (hf : C (23 + 7 * a + s) 0 = nI r) (hi : i < 24) : kb_E (kb_en kz_App_changeWord [.inr (some (19 + 7 * a)), .inr (some (23 + 7 * a + s)), .inl (nI i), .inl w] C) (fun q => q = (some (.inl 1), kb_up (kb_up C (23 + 7 * a + s) 3 1) 5 (4 * r + i % 4) w)) := by
  have W := cp_setWord (Or.inl ⟨rfl, rfl⟩ : kp_P 3 12) (kb_up C (23 + 7 * a + s) 3 1) hr (nI (i % 4)) w
  rw [if_pos (ko_04 i), nI_clamp (by omega), ← ko_rem hi] at W
  have e0 : (kb_up C (23 + 7 * a + s) 3 1) (23 + 7 * a + s) 0 = nI r := by rw [kb_up_at, pk_un (by decide)]; exact hf
  rw [← e0] at W
  have ha01 : a = 0 ∨ a = 1 := by omega
  have hs01 : s = 0 ∨ s = 1 ∨ s = 2 := by omega
  rcases ha01 with rfl | rfl <;> rcases hs01 with rfl | rfl | rfl
  all_goals
    refine kb_go 60 [] ?_
    refine And.intro rfl (And.intro rfl ?_)
    refine kb_E_to W ?_
    exact And.intro rfl rfl
set_option maxRecDepth 100000 in
theorem cq_change_no {a : Nat} (ha : a < 2) (C : kb_M) (i w : Int32) : kb_E (kb_en kz_App_changeWord [.inr (some (19 + 7 * a)), .inr none, .inl i, .inl w] C) (fun q => q = (some (.inl 0), C)) := by
  have ha01 : a = 0 ∨ a = 1 := by omega
  rcases ha01 with rfl | rfl
  all_goals
    refine kb_go 60 [] ?_
    exact And.intro rfl rfl
/-- what the slot of an opened part is -/
theorem ko_slot {N B : Nat} {S : kb_M} {a f i : Nat} {t : kb_R} (ha : a < 2) (hf : f < 6) (hi : i < kr_sz S (6 * a + f)) (h : ko_P N B S a (6 * f + i / 4) t) : ∃ s r L, s < 3 ∧ r < 12 ∧ t.1 = some (.inr (some (23 + 7 * a + s))) ∧ t.2 (23 + 7 * a + s) 0 = nI r ∧ ki_Z N B t.2 S ∧ ki_B t.2 S a L ∧ L[kr_fr S a - 1]? = some s ∧ t.2 (23 + 7 * a + s) 1 = nI (6 * f + i / 4) ∧ 0 < kr_fr S a ∧ t.2 5 (4 * r + i % 4) = S 34 (144 * a + 24 * f + i) := by
  obtain ⟨s, L, s1, s2, s3, s4, s5, s6⟩ := h
  have hA := s3.1.2.2.2.2.2 a ha
  have hR := s3.1.1
  have h24 := (hR.2.1 (6 * a + f) (by omega)).2
  have hpos : 0 < kr_fr S a := by
    have := (List.getElem?_eq_some_iff.mp s5).1
    have := s4.1
    omega
  obtain ⟨-, -, r, -, -, -, g1, g2, -⟩ := ka_slot hA hR ha s4 s5
  have e1 : t.2 (23 + 7 * a + s) 1 = nI (6 * f + i / 4) := by
    rw [(s4.2.2.2.2.1 _ s s5).1, ← s6]
    congr 1
    omega
  obtain ⟨w, w1, w2, w3⟩ := hA.2.2.1.1 f (i / 4) hf (by omega) (by omega)
  have v := ((hA.2.2.2.2 f i w hf hi w2 w1).1 s r s1 e1 g2 g1).1
  exact ⟨s, r, L, s1, g1, s2, g2, s3, s4, s5, e1, hpos, v⟩
theorem kz_write {N B : Nat} {C R : kb_M} (h : ki_Z N B C R) {a : Nat} (ha : a < 2) {L : List Nat} (hL : ki_B C R a L) {j s r f i : Nat} (w : Int32) (hj : L[j]? = some s) (hr : r < 12) (hfr : C (23 + 7 * a + s) 0 = nI r) (hf : f < 6) (hi : i < kr_sz R (6 * a + f)) (hpt : C (23 + 7 * a + s) 1 = nI (6 * f + i / 4)) : ki_Z N B (kb_up (kb_up C (23 + 7 * a + s) 3 1) 5 (4 * r + i % 4) w) (kb_up (kb_up R 34 (144 * a + 24 * f + i) w) 37 (3 * a + j) 1) := by
  have hs3 := hL.2.2.1 s (List.mem_of_getElem? hj)
  obtain ⟨J, -⟩ := ka_write h.1 ha hL w hj hr hfr hf hi hpt
  have dn : ∀ k, k ≠ 5 → k ≠ 23 + 7 * a + s → (kb_up (kb_up C (23 + 7 * a + s) 3 1) 5 (4 * r + i % 4) w) k = C k := fun k q1 q2 => by rw [kb_up_ne _ _ _ q1, kb_up_ne _ _ _ q2]
  have sn : ∀ k, k ≠ 34 → k ≠ 37 → (kb_up (kb_up R 34 (144 * a + 24 * f + i) w) 37 (3 * a + j) 1) k = R k := fun k q1 q2 => by rw [kb_up_ne _ _ _ q2, kb_up_ne _ _ _ q1]
  have e19 := dn 19 (by omega) (by omega)
  have e26 := dn 26 (by omega) (by omega)
  have s33 := sn 33 (by decide) (by decide)
  obtain ⟨x0, x1⟩ := h.2.2.2.2
  exact kz_cnt h J (dn 1 (by omega) (by omega)) (dn 3 (by omega) (by omega)) (dn 6 (by omega) (by omega)) (fun k q1 q2 => dn k (by omega) (by omega)) (by rw [e19]) (by rw [e26]) (by rw [e19, e26, s33]; exact x0) (by rw [e19, e26, s33]; exact x1) (by rw [s33]) (sn 39 (by decide) (by decide)) (sn 40 (by decide) (by decide)) (sn 42 (by decide) (by decide)) (sn 43 (by decide) (by decide))
/-- open and change -/
theorem ko_change {N B : Nat} {R : kb_M} {a f i : Nat} {t : kb_R} (ha : a < 2) (hf : f < 6) (hi : i < kr_sz R (6 * a + f)) (h : ko_P N B (kr_op R a (6 * f + i / 4)) a (6 * f + i / 4) t) (w : Int32) : ∃ s, s < 3 ∧ t.1 = some (.inr (some (23 + 7 * a + s))) ∧ kb_E (kb_en kz_App_changeWord [.inr (some (19 + 7 * a)), .inr (some (23 + 7 * a + s)), .inl (nI i), .inl w] t.2) (fun q => q.1 = some (.inl 1) ∧ ki_Z N B q.2 (kr_ch R a f i w)) := by
  have hi' : i < kr_sz (kr_op R a (6 * f + i / 4)) (6 * a + f) := by
    unfold kr_sz
    rw [kr_op_ne _ _ _ (Or.inr rfl)]
    exact hi
  obtain ⟨s, r, L, s1, s2, s3, s4, s5, s6, s7, s8, s9, s10⟩ := ko_slot ha hf hi' h
  have h24 := (s5.1.1.2.1 (6 * a + f) (by omega)).2
  refine ⟨s, s1, s3, kb_E_to (cq_change ha s1 t.2 w s2 s4 (by omega)) ⟨rfl, ?_⟩⟩
  have Z := kz_write s5 ha s6 w s7 s2 s4 hf hi' s8
  rw [show 3 * a + (kr_fr (kr_op R a (6 * f + i / 4)) a - 1) = 3 * a + kr_fr (kr_op R a (6 * f + i / 4)) a - 1 by omega] at Z
  exact Z
end
section
/-! read, write and length of the whole -/
theorem kz_mono {N B D : Nat} {C R : kb_M} (h : ki_Z N B C R) (hd : B ≤ D) : ki_Z N D C R := by
  obtain ⟨h1, ⟨n, n1, n2, n3⟩, h3⟩ := h
  exact ⟨h1, ⟨n, n1, by omega, n3⟩, h3⟩
/-- a call of both: the same answer, and they stay tied -/
def kw_P (N : Nat) (z y : Nat) (A : List kb_v) (C R : kb_M) : Prop := ∃ v S, kb_E (kb_en y (.inr (some 33) :: A) R) (fun q => q = (some (.inl v), S)) ∧ kb_E (kb_en z (.inr (some 0) :: A) C) (fun q => q.1 = some (.inl v) ∧ ki_V (N + 1) q.2 S)
theorem kv_z {N : Nat} {C R : kb_M} (h : ki_Z (N + 1) (55 * N + 5) C R) : ki_V (N + 1) C R := kz_V.mpr (kz_mono h (by omega))
set_option maxRecDepth 100000 in
theorem cq_open_f {a : Nat} (ha : a < 2) (C : kb_M) {v : Int32} (hv : ¬ (0 ≤ v ∧ v ≤ 5)) (x : Int32) : kb_E (kb_en kz_App_openPartOf [.inr (some (19 + 7 * a)), .inl v, .inl x] C) (fun q => q = (some (.inr none), C)) := by
  have F := cq_isFile C v
  rw [if_neg hv] at F
  have ha01 : a = 0 ∨ a = 1 := by omega
  rcases ha01 with rfl | rfl
  all_goals
    refine kb_go 60 [] ?_
    refine kb_E_to F ?_
    exact And.intro (fun _ => And.intro rfl rfl) (fun h => absurd h (by decide))
set_option maxRecDepth 100000 in
theorem cq_open_i {a f n : Nat} (ha : a < 2) (hf : f < 6) (C : kb_M) (hn : n < 1000) (hl : C (20 + 7 * a) f = nI n) {x : Int32} (hx : ¬ ∃ i, i < n ∧ x = nI i) : kb_E (kb_en kz_App_openPartOf [.inr (some (19 + 7 * a)), .inl (nI f), .inl x] C) (fun q => q = (some (.inr none), C)) := by
  have F := cq_isFile C (nI f)
  have h5 : 0 ≤ nI f ∧ nI f ≤ 5 := kr_out (n := 5) (by omega) (by omega)
  rw [if_pos h5] at F
  have hcl : (nI f).toNatClampNeg = f := nI_clamp (by omega)
  have fin : ¬ x < 0 → ¬ x < C (20 + 7 * a) f := by
    intro h0 h1
    obtain ⟨k, hk, rfl⟩ := nI_of h0
    rw [hl, nI_ltI hk (by omega)] at h1
    exact hx ⟨k, h1, rfl⟩
  rw [← hcl] at fin
  have ha01 : a = 0 ∨ a = 1 := by omega
  rcases ha01 with rfl | rfl
  all_goals
    refine kb_go 60 [] ?_
    refine kb_E_to F ?_
    refine And.intro (fun h => absurd h (by decide)) (fun _ => ?_)
    refine And.intro (fun _ => And.intro rfl rfl) (fun h => ?_)
    refine And.intro (kb_in_nI (by omega) (by omega)) ?_
    exact And.intro (fun h2 => absurd (of_decide_eq_true h2) (fin (of_decide_eq_false h))) (fun _ => And.intro rfl rfl)
/-- no such word: what the class opens is nothing, and the reference says so -/
theorem cq_open_no {N : Nat} {C R : kb_M} (h : ki_J N C R) {a : Nat} (ha : a < 2) {v x : Int32} (hn : ¬ ∃ f i, f < 6 ∧ v = nI f ∧ i < kr_sz R (6 * a + f) ∧ x = nI i) : kb_E (kb_en kz_App_openPartOf [.inr (some (19 + 7 * a)), .inl v, .inl x] C) (fun q => q = (some (.inr none), C)) ∧ kb_E (kb_en kz_Model_noWord [.inr (some 33), .inl (nI a), .inl v, .inl x] R) (fun q => q = (some (.inl 1), R)) := by
  by_cases hv : 0 ≤ v ∧ v ≤ 5
  · obtain ⟨f, hf, rfl⟩ := kr_in v (n := 5) (by decide) hv
    have hx : ¬ ∃ i, i < kr_sz R (6 * a + f) ∧ x = nI i := fun ⟨i, i1, i2⟩ => hn ⟨f, i, by omega, rfl, i1, i2⟩
    have hl := (h.2.2.2.2.2 a ha).1.1 f (by omega)
    obtain ⟨z1, z2⟩ := h.1.2.1 (6 * a + f) (by omega)
    exact ⟨cq_open_i ha (by omega) C (by omega) (hl.trans z1) hx, cr_word_no h.1 ha (by omega) hx⟩
  · exact ⟨cq_open_f ha C hv x, cr_noWord0 (fun q => hv q.2) x⟩
set_option maxRecDepth 100000 in
theorem op_writeWord {N B : Nat} {C R : kb_M} (h : ki_Z N B C R) (hN : N ≤ 600) (hB : B + 10 < 2 ^ 30) {a f i : Nat} (ha : a < 2) (hf : f < 6) (hi : i < kr_sz R (6 * a + f)) (w : Int32) : kb_E (kb_en kz_App_writeWord [.inr (some (19 + 7 * a)), .inl (nI f), .inl (nI i), .inl w] C) (fun q => q.1 = some (.inl 1) ∧ ki_Z (N + 1) (B + 5) q.2 (kr_ch R a f i w)) := by
  have W := op_open h hN hB ha hf hi
  have ha01 : a = 0 ∨ a = 1 := by omega
  rcases ha01 with rfl | rfl
  all_goals
    refine kb_go 60 [] ?_
    refine kb_E_then W (fun v M hq => ?_)
    obtain ⟨s, s1, s2, s3⟩ := ko_change ha hf hi hq w
    dsimp only at s2 s3
    subst s2
    refine kb_E_then s3 (fun v2 M2 hq2 => ?_)
    obtain ⟨t1, t2⟩ := hq2
    dsimp only at t1 t2
    subst t1
    exact And.intro rfl ⟨rfl, t2⟩
set_option maxRecDepth 100000 in
theorem op_writeWord_no {C : kb_M} {a : Nat} (ha : a < 2) {v x : Int32} (W : kb_E (kb_en kz_App_openPartOf [.inr (some (19 + 7 * a)), .inl v, .inl x] C) (fun q => q = (some (.inr none), C))) (w : Int32) : kb_E (kb_en kz_App_writeWord [.inr (some (19 + 7 * a)), .inl v, .inl x, .inl w] C) (fun q => q = (some (.inl 0), C)) := by
  have G := cq_change_no ha C x w
  have ha01 : a = 0 ∨ a = 1 := by omega
  rcases ha01 with rfl | rfl
  all_goals
    refine kb_go 60 [] ?_
    refine kb_E_to W ?_
    refine kb_E_to G ?_
    exact And.intro rfl rfl
set_option maxRecDepth 100000 in
theorem op_readWord {N B : Nat} {C R : kb_M} (h : ki_Z N B C R) (hN : N ≤ 600) (hB : B + 10 < 2 ^ 30) {a f i : Nat} (ha : a < 2) (hf : f < 6) (hi : i < kr_sz R (6 * a + f)) : kb_E (kb_en kz_App_readWord [.inr (some (19 + 7 * a)), .inl (nI f), .inl (nI i)] C) (fun q => q.1 = some (.inl ((kr_op R a (6 * f + i / 4)) 34 (144 * a + 24 * f + i))) ∧ ki_Z (N + 1) (B + 5) q.2 (kr_op R a (6 * f + i / 4))) := by
  have W := op_open h hN hB ha hf hi
  have hi' : i < kr_sz (kr_op R a (6 * f + i / 4)) (6 * a + f) := by
    unfold kr_sz
    rw [kr_op_ne _ _ _ (Or.inr rfl)]
    exact hi
  have h24 := (h.1.1.2.1 (6 * a + f) (by omega)).2
  have G : ∀ M s r, r < 12 → M (23 + 7 * a + s) 0 = nI r → kb_E (kb_en kz_Pool_wordAt [.inr (some 3), .inl (M (23 + 7 * a + s) 0), .inl (nI i - nI i / Int32.ofInt 4 * Int32.ofInt 4)] M) (fun q => q = (some (.inl (M 5 (4 * r + i % 4))), M)) := by
    intro M s r hr hm
    have W := cp_wordAt (Or.inl ⟨rfl, rfl⟩ : kp_P 3 12) M hr (nI (i % 4))
    rw [if_pos (ko_04 i), nI_clamp (by omega), ← ko_rem (by omega)] at W
    rw [hm]
    exact W
  have ha01 : a = 0 ∨ a = 1 := by omega
  rcases ha01 with rfl | rfl
  all_goals
    refine kb_go 60 [] ?_
    refine kb_E_then W (fun v M hq => ?_)
    obtain ⟨s, r, L, s1, s2, s3, s4, s5, s6, s7, s8, s9, s10⟩ := ko_slot ha hf hi' hq
    dsimp only at s3 s4 s5 s6 s8 s10
    subst s3
    have hs01 : s = 0 ∨ s = 1 ∨ s = 2 := by omega
    rcases hs01 with rfl | rfl | rfl
    all_goals
      refine And.intro rfl ?_
      refine kb_E_to (G M _ r s2 s4) ?_
      exact And.intro rfl ⟨by rw [← s10], s5⟩
set_option maxRecDepth 100000 in
theorem op_readWord_no {C : kb_M} {a : Nat} (ha : a < 2) {v x : Int32} (W : kb_E (kb_en kz_App_openPartOf [.inr (some (19 + 7 * a)), .inl v, .inl x] C) (fun q => q = (some (.inr none), C))) : kb_E (kb_en kz_App_readWord [.inr (some (19 + 7 * a)), .inl v, .inl x] C) (fun q => q = (some (.inl 0), C)) := by
  have ha01 : a = 0 ∨ a = 1 := by omega
  rcases ha01 with rfl | rfl
  all_goals
    refine kb_go 60 [] ?_
    refine kb_E_to W ?_
    exact And.intro rfl rfl
end
section
/-! the class's read, write and length against the reference's -/
set_option maxRecDepth 100000 in
theorem ow_write {N : Nat} {C R : kb_M} (h : ki_V N C R) (hN : N ≤ 600) (u v x w : Int32) : kw_P N kz_BK_write kz_Model_write [.inl u, .inl v, .inl x, .inl w] C R := by
  by_cases hu : 0 ≤ u ∧ u ≤ 1
  · obtain ⟨a, ha, rfl⟩ := kr_in u (n := 1) (by decide) hu
    have ha : a < 2 := by omega
    have O := op_appOf C ha
    by_cases hn : ∃ f i, f < 6 ∧ v = nI f ∧ i < kr_sz R (6 * a + f) ∧ x = nI i
    · obtain ⟨f, i, hf, rfl, hi, rfl⟩ := hn
      have W := op_writeWord (kz_V.mp h) hN (by omega) ha hf hi w
      refine ⟨1, _, cr_write h.1.1 ha hf hi w, ?_⟩
      have ha01 : a = 0 ∨ a = 1 := by omega
      rcases ha01 with rfl | rfl
      all_goals
        refine kb_go 60 [] ?_
        refine kb_E_to O ?_
        refine kb_E_then W (fun v M hq => ?_)
        obtain ⟨t1, t2⟩ := hq
        dsimp only at t1 t2
        subst t1
        exact And.intro (fun h => absurd h (by decide)) (fun _ => And.intro rfl ⟨rfl, kv_z t2⟩)
    · obtain ⟨n1, n2⟩ := cq_open_no h.1 ha hn
      have W := op_writeWord_no ha n1 w
      refine ⟨0, R, cr_write_no n2 w, ?_⟩
      have ha01 : a = 0 ∨ a = 1 := by omega
      rcases ha01 with rfl | rfl
      all_goals
        refine kb_go 60 [] ?_
        refine kb_E_to O ?_
        refine kb_E_to W ?_
        exact And.intro (fun _ => And.intro rfl ⟨rfl, kv_up h⟩) (fun h => absurd h (by decide))
  · refine ⟨0, R, cr_write_no (cr_noWord0 (fun q => hu q.1) x) w, ?_⟩
    refine kb_go 60 [] ?_
    refine kb_E_to (op_appOf_no C hu) ?_
    exact And.intro rfl ⟨rfl, kv_up h⟩
set_option maxRecDepth 100000 in
theorem ow_read {N : Nat} {C R : kb_M} (h : ki_V N C R) (hN : N ≤ 600) (u v x : Int32) : kw_P N kz_BK_read kz_Model_read [.inl u, .inl v, .inl x] C R := by
  by_cases hu : 0 ≤ u ∧ u ≤ 1
  · obtain ⟨a, ha, rfl⟩ := kr_in u (n := 1) (by decide) hu
    have ha : a < 2 := by omega
    have O := op_appOf C ha
    by_cases hn : ∃ f i, f < 6 ∧ v = nI f ∧ i < kr_sz R (6 * a + f) ∧ x = nI i
    · obtain ⟨f, i, hf, rfl, hi, rfl⟩ := hn
      have W := op_readWord (kz_V.mp h) hN (by omega) ha hf hi
      refine ⟨_, _, cr_read h.1.1 ha hf hi, ?_⟩
      have ha01 : a = 0 ∨ a = 1 := by omega
      rcases ha01 with rfl | rfl
      all_goals
        refine kb_go 60 [] ?_
        refine kb_E_to O ?_
        refine kb_E_then W (fun v M hq => ?_)
        obtain ⟨t1, t2⟩ := hq
        dsimp only at t1 t2
        subst t1
        exact And.intro rfl ⟨rfl, kv_z t2⟩
    · obtain ⟨n1, n2⟩ := cq_open_no h.1 ha hn
      have W := op_readWord_no ha n1
      refine ⟨0, R, cr_read_no n2, ?_⟩
      have ha01 : a = 0 ∨ a = 1 := by omega
      rcases ha01 with rfl | rfl
      all_goals
        refine kb_go 60 [] ?_
        refine kb_E_to O ?_
        refine kb_E_to W ?_
        exact And.intro rfl ⟨rfl, kv_up h⟩
  · refine ⟨0, R, cr_read_no (cr_noWord0 (fun q => hu q.1) x), ?_⟩
    refine kb_go 60 [] ?_
    refine kb_E_to (op_appOf_no C hu) ?_
    exact And.intro rfl ⟨rfl, kv_up h⟩
set_option maxRecDepth 100000 in
theorem cq_length {a f : Nat} (ha : a < 2) (hf : f < 6) (C : kb_M) : kb_E (kb_en kz_App_lengthOf [.inr (some (19 + 7 * a)), .inl (nI f)] C) (fun q => q = (some (.inl (C (20 + 7 * a) f)), C)) := by
  have F := cq_isFile C (nI f)
  have h5 : 0 ≤ nI f ∧ nI f ≤ 5 := kr_out (n := 5) (by omega) (by omega)
  rw [if_pos h5] at F
  have hcl : (nI f).toNatClampNeg = f := nI_clamp (by omega)
  have ha01 : a = 0 ∨ a = 1 := by omega
  rcases ha01 with rfl | rfl
  all_goals
    refine kb_go 60 [] ?_
    refine kb_E_to F ?_
    refine And.intro (fun h => absurd h (by decide)) (fun _ => ?_)
    refine And.intro (kb_in_nI (by omega) (by omega)) (And.intro rfl ?_)
    rw [hcl]
set_option maxRecDepth 100000 in
theorem cq_length_no {a : Nat} (ha : a < 2) {v : Int32} (hv : ¬ (0 ≤ v ∧ v ≤ 5)) (C : kb_M) : kb_E (kb_en kz_App_lengthOf [.inr (some (19 + 7 * a)), .inl v] C) (fun q => q = (some (.inl (-1)), C)) := by
  have F := cq_isFile C v
  rw [if_neg hv] at F
  have ha01 : a = 0 ∨ a = 1 := by omega
  rcases ha01 with rfl | rfl
  all_goals
    refine kb_go 60 [] ?_
    refine kb_E_to F ?_
    exact And.intro (fun _ => And.intro rfl rfl) (fun h => absurd h (by decide))
set_option maxRecDepth 100000 in
theorem ow_length {N : Nat} {C R : kb_M} (h : ki_V N C R) (u v : Int32) : kw_P N kz_BK_length kz_Model_length [.inl u, .inl v] C R := by
  by_cases hu : 0 ≤ u ∧ u ≤ 1
  · obtain ⟨a, ha, rfl⟩ := kr_in u (n := 1) (by decide) hu
    have ha : a < 2 := by omega
    have O := op_appOf C ha
    by_cases hv : 0 ≤ v ∧ v ≤ 5
    · obtain ⟨f, hf, rfl⟩ := kr_in v (n := 5) (by decide) hv
      have W := cq_length ha (f := f) (by omega) C
      rw [(h.1.2.2.2.2.2 a ha).1.1 f (by omega)] at W
      refine ⟨_, R, cr_length ha (by omega), ?_⟩
      have ha01 : a = 0 ∨ a = 1 := by omega
      rcases ha01 with rfl | rfl
      all_goals
        refine kb_go 60 [] ?_
        refine kb_E_to O ?_
        refine kb_E_to W ?_
        exact And.intro rfl ⟨rfl, kv_up h⟩
    · have W := cq_length_no ha hv C
      refine ⟨-1, R, cr_length_no (fun q => hv q.2), ?_⟩
      have ha01 : a = 0 ∨ a = 1 := by omega
      rcases ha01 with rfl | rfl
      all_goals
        refine kb_go 60 [] ?_
        refine kb_E_to O ?_
        refine kb_E_to W ?_
        exact And.intro rfl ⟨rfl, kv_up h⟩
  · refine ⟨-1, R, cr_length_no (fun q => hu q.1), ?_⟩
    refine kb_go 60 [] ?_
    refine kb_E_to (op_appOf_no C hu) ?_
    exact And.intro rfl ⟨rfl, kv_up h⟩
end
section
/-! the reference's words (row 34) have no say in what is opened -/
theorem kc_ro (R : kb_M) (g : Nat → Int32) {k : Nat} (f : Nat → Int32) (h : k ≠ 34) : kb_ro (kb_ro R 34 g) k f = kb_ro (kb_ro R k f) 34 g := by
  funext q
  unfold kb_ro
  by_cases h1 : q = k
  · rw [if_pos h1, if_neg (by omega), if_pos h1]
  · rw [if_neg h1]
    by_cases h2 : q = 34
    · rw [if_pos h2, if_pos h2]
    · rw [if_neg h2, if_neg h2, if_neg h1]
theorem kc_up (R : kb_M) (g : Nat → Int32) {k : Nat} (i : Nat) (x : Int32) (h : k ≠ 34) : kb_up (kb_ro R 34 g) k i x = kb_ro (kb_up R k i x) 34 g := by
  unfold kb_up
  rw [kb_ro_ne _ _ h, kc_ro _ _ _ h]
theorem kc_l (R : kb_M) (g : Nat → Int32) (d : Nat) (b : Int32) (n : Nat) : kr_l (kb_ro R 34 g) d b n = kr_l R d b n := kr_l_eq n (fun _ _ => ⟨rfl, Iff.rfl⟩)
theorem kc_c (R : kb_M) (g : Nat → Int32) (e b : Nat) : kr_c (kb_ro R 34 g) e b = kr_c R e b := by
  unfold kr_c
  rw [kc_l, kr_b_eq (R := R) (S := kb_ro R 34 g) rfl]
  rfl
theorem kc_f (R : kb_M) (g : Nat → Int32) (b : Nat) : kr_f (kb_ro R 34 g) b = kr_f R b := by
  unfold kr_f
  rw [kc_c, kc_c, kc_c, kc_c]
theorem kc_e1 (R : kb_M) (g : Nat → Int32) (d : Nat) (b v : Int32) (n : Nat) : kr_e1 (kb_ro R 34 g) d b v n = kr_e1 R d b v n := by
  induction n with
  | zero => rfl
  | succ n ih =>
    unfold kr_e1
    rw [ih]
    rfl
theorem kc_e (R : kb_M) (g : Nat → Int32) (b : Int32) : kr_e (kb_ro R 34 g) b = kr_e R b := by
  unfold kr_e
  rw [kc_e1, kc_e1]
  rfl
theorem kc_la (R : kb_M) (g : Nat → Int32) (d : Nat) (b : Int32) (n : Nat) : kr_la (kb_ro R 34 g) d b n = kr_la R d b n := by
  induction n with
  | zero => rfl
  | succ n ih =>
    unfold kr_la
    rw [ih]
    rfl
theorem kc_ri (R : kb_M) (g : Nat → Int32) (b : Int32) : kr_ri (kb_ro R 34 g) b = kr_ri R b := by
  unfold kr_ri
  rw [kc_l, kc_l]
  rfl
theorem kc_mk (R : kb_M) (g : Nat → Int32) (j : Nat) : kr_mk (kb_ro R 34 g) j = kb_ro (kr_mk R j) 34 g := by
  unfold kr_mk
  rw [kc_up _ _ _ _ (by decide), kc_up _ _ _ _ (by decide), kb_ro_ne _ _ (by decide)]
theorem kc_wi (R : kb_M) (g : Nat → Int32) (b : Int32) : kr_wi (kb_ro R 34 g) b = kb_ro (kr_wi R b) 34 g := by
  unfold kr_wi
  rw [kc_e, kc_ri, kc_la, show kr_bd (kb_ro R 34 g) (kr_ri R b) = kr_bd R (kr_ri R b) from rfl]
  by_cases h : kr_e R b < 0
  · rw [if_pos h, if_pos h]
    cases kr_la R (kr_ri R b) b (kr_bd R (kr_ri R b)) with
    | none => rfl
    | some t => exact kc_mk R g _
  · rw [if_neg h, if_neg h]
theorem kc_mg (R : kb_M) (g : Nat → Int32) (t : Int32) (d n : Nat) : kr_mg (kb_ro R 34 g) t d n = kb_ro (kr_mg R t d n) 34 g := by
  unfold kr_mg
  rw [kr_k_eq (R := R) (S := kb_ro R 34 g) n (fun _ _ _ => ⟨rfl, rfl⟩), kb_ro_ne (j := 42) _ _ (by decide), kb_ro_ne (j := 40) _ _ (by decide), kb_ro_ne (j := 43) _ _ (by decide), kc_ro _ _ _ (by decide), kc_ro _ _ _ (by decide)]
theorem kc_mv (R : kb_M) (g : Nat → Int32) (t : Int32) : kr_mv (kb_ro R 34 g) t = kb_ro (kr_mv R t) 34 g := by
  unfold kr_mv kr_m0
  rw [kc_up _ _ _ _ (by decide), kc_mg, kc_mg]
  rfl
theorem kc_cm (R : kb_M) (g : Nat → Int32) (b : Nat) : kr_cm (kb_ro R 34 g) b = kb_ro (kr_cm R b) 34 g := by
  unfold kr_cm
  rw [kc_f, kc_wi, kc_e, kc_mv]
  by_cases h : kr_f R b = 0
  · rw [if_pos h, if_pos h]
  · rw [if_neg h, if_neg h]
theorem kc_rm (R : kb_M) (g : Nat → Int32) (a j : Nat) : kr_rm (kb_ro R 34 g) a j = kb_ro (kr_rm R a j) 34 g := by
  unfold kr_rm kr_ri1
  rw [kb_ro_ne (j := 36) _ _ (by decide), kb_ro_ne (j := 37) _ _ (by decide), kc_ro _ _ _ (by decide), kc_ro _ _ _ (by decide), kc_up _ _ _ _ (by decide)]
  rfl
theorem kc_so (R : kb_M) (g : Nat → Int32) (j : Nat) : kr_so (kb_ro R 34 g) j = kb_ro (kr_so R j) 34 g := by
  unfold kr_so
  rw [kb_ro_ne (j := 33) _ _ (by decide), kb_ro_ne (j := 37) _ _ (by decide), kc_up _ _ _ _ (by decide), kc_up _ _ _ _ (by decide)]
theorem kc_ad (R : kb_M) (g : Nat → Int32) (a : Nat) (p d : Int32) : kr_ad (kb_ro R 34 g) a p d = kb_ro (kr_ad R a p d) 34 g := by
  unfold kr_ad
  rw [kb_ro_ne (j := 38) _ _ (by decide), kc_up _ _ _ _ (by decide), kc_up _ _ _ _ (by decide), kc_up _ _ _ _ (by decide)]
  rfl
theorem kc_o2 (R : kb_M) (g : Nat → Int32) (a : Nat) : kr_o2 (kb_ro R 34 g) a = kb_ro (kr_o2 R a) 34 g := by
  have h1 : kr_o1 (kb_ro R 34 g) a = kb_ro (kr_o1 R a) 34 g := by
    unfold kr_o1
    rw [show kr_fr (kb_ro R 34 g) a = kr_fr R a from rfl, kc_so, kc_rm, kc_cm]
    by_cases h : kr_fr R a = 3
    · rw [if_pos h, if_pos h]
    · rw [if_neg h, if_neg h]
  unfold kr_o2
  rw [h1, kb_ro_ne (j := 33) _ _ (by decide), kc_up _ _ _ _ (by decide)]
theorem kr_fi_eq {R S : kb_M} (h : S 36 = R 36) (a : Nat) (p : Int32) (n : Nat) : kr_fi S a p n = kr_fi R a p n := by
  induction n with
  | zero => rfl
  | succ n ih =>
    unfold kr_fi
    rw [ih, h]
theorem kc_op (R : kb_M) (g : Nat → Int32) (a p : Nat) : kr_op (kb_ro R 34 g) a p = kb_ro (kr_op R a p) 34 g := by
  unfold kr_op
  rw [kr_fi_eq (R := R) (S := kb_ro R 34 g) rfl, show kr_fr (kb_ro R 34 g) a = kr_fr R a from rfl]
  cases kr_fi R a (nI p) (kr_fr R a) with
  | none =>
    show kr_ad (kr_o2 (kb_ro R 34 g) a) a (nI p) 0 = kb_ro (kr_ad (kr_o2 R a) a (nI p) 0) 34 g
    rw [kc_o2, kc_ad]
  | some j =>
    show kr_ad (kr_rm (kb_ro R 34 g) a j) a (nI p) (R 37 (3 * a + j)) = kb_ro (kr_ad (kr_rm R a j) a (nI p) (R 37 (3 * a + j))) 34 g
    rw [kc_rm, kc_ad]
/-- the word that is then written was of no account -/
theorem kc_ch (R : kb_M) (a f i : Nat) (x w : Int32) : kr_ch (kb_up R 34 (144 * a + 24 * f + i) x) a f i w = kr_ch R a f i w := by
  unfold kr_ch
  rw [show kb_up R 34 (144 * a + 24 * f + i) x = kb_ro R 34 (upd (R 34) (144 * a + 24 * f + i) x) from rfl, kc_op]
  generalize hS : kr_op R a (6 * f + i / 4) = S
  have e34 : S 34 = R 34 := by rw [← hS]; exact kr_op_ne _ _ _ (Or.inl rfl)
  have e : kb_up (kb_ro S 34 (upd (R 34) (144 * a + 24 * f + i) x)) 34 (144 * a + 24 * f + i) w = kb_up S 34 (144 * a + 24 * f + i) w := by
    funext k q
    by_cases hk : k = 34
    · rw [hk, kb_up_at, kb_up_at, kb_ro_at, e34]
      by_cases hq : q = 144 * a + 24 * f + i
      · rw [hq, pk_us, pk_us]
      · rw [pk_un hq, pk_un hq, pk_un hq]
    · rw [kb_up_ne _ _ _ hk, kb_up_ne _ _ _ hk, kb_ro_ne _ _ hk]
  rw [e]
  rfl
end
section
/-! a file grows by a word -/
theorem kr_b_set {R S : kb_M} {a f m : Nat} (h : S 35 = upd (R 35) (6 * a + f) (nI m)) (hm : m < 1000) : ∀ n, (n ≤ f → kr_b S a n = kr_b R a n) ∧ (f < n → kr_b S a n + (kr_sz R (6 * a + f) + 3) / 4 = kr_b R a n + (m + 3) / 4) := by
  intro n
  induction n with
  | zero => exact ⟨fun _ => rfl, fun q => absurd q (by omega)⟩
  | succ n ih =>
    obtain ⟨i1, i2⟩ := ih
    refine ⟨fun q => ?_, fun q => ?_⟩
    · have := i1 (by omega)
      unfold kr_b kr_sz
      rw [this, h, pk_un (by omega)]
    · by_cases hn : n = f
      · have := i1 (by omega)
        unfold kr_b kr_sz
        rw [this, h, hn, pk_us, nI_clamp (by omega)]
        have : (R 35 (6 * a + f)).toNatClampNeg = kr_sz R (6 * a + f) := rfl
        omega
      · have := i2 (by omega)
        unfold kr_b
        have e : kr_sz S (6 * a + n) = kr_sz R (6 * a + n) := by unfold kr_sz; rw [h, pk_un (by omega)]
        rw [e]
        omega
set_option maxHeartbeats 1000000 in
theorem ka_grow {N : Nat} {C D R S : kb_M} (h : ki_J N C R) {a : Nat} (ha : a < 2) {L : List Nat} (hL : ki_B C R a L) {f n : Nat} {x : Int32} (hf : f < 6) (hn : kr_sz R (6 * a + f) = n) (hn24 : n < 24)
    (d20 : D (20 + 7 * a) = upd (C (20 + 7 * a)) f (nI (n + 1))) (s35 : S 35 = upd (R 35) (6 * a + f) (nI (n + 1))) (s34 : S 34 = upd (R 34) (144 * a + 24 * f + n) x) (sn : ∀ k, k ≠ 34 → k ≠ 35 → S k = R k)
    (hH : ki_H D) (hNN : ki_N D S) (dn : ∀ k, 9 ≤ k → k ≠ 20 + 7 * a → k ≠ 21 + 7 * a → D k = C k) (hk : ∀ e, e < 4 → ki_keep C D e) (d21 : ∀ q, q ≠ 6 * f + n / 4 ∨ n % 4 ≠ 0 → D (21 + 7 * a) q = C (21 + 7 * a) q) (hb6 : kr_b S a 6 ≤ 6) (hP : ki_P D S a)
    (hW : ∀ r, r < 24 → D (21 + 7 * a) (6 * f + n / 4) = nI r → (∀ s r0, s < 3 → C (23 + 7 * a + s) 1 = nI (6 * f + n / 4) → C (23 + 7 * a + s) 0 = nI r0 → r0 < 12 → C 5 (4 * r0 + n % 4) = x ∧ (C (23 + 7 * a + s) 3 = 0 → D 8 (4 * r + n % 4) = x)) ∧ ((∀ s, s < 3 → C (23 + 7 * a + s) 1 ≠ nI (6 * f + n / 4)) → D 8 (4 * r + n % 4) = x)) : ki_J N D S ∧ ki_B D S a L := by
  have hA := h.2.2.2.2.2 a ha
  have hR := h.1
  obtain ⟨h1, h2, ⟨p1, p2, p3⟩, -, hwd⟩ := hA
  obtain ⟨l1, l2, l3, l4, l5, l6⟩ := hL
  have szf : kr_sz S (6 * a + f) = n + 1 := by unfold kr_sz; rw [s35, pk_us, nI_clamp (by omega)]
  have szo : ∀ j, j ≠ 6 * a + f → kr_sz S j = kr_sz R j := fun j hj => by unfold kr_sz; rw [s35, pk_un hj]
  have szle : ∀ j, kr_sz R j ≤ kr_sz S j := fun j => by
    by_cases hj : j = 6 * a + f
    · rw [hj, szf]; omega
    · rw [szo j hj]; exact Nat.le_refl _
  have hSok : kr_ok S := by
    have e39 := sn 39 (by decide) (by decide)
    have e38 := sn 38 (by decide) (by decide)
    have e41 := sn 41 (by decide) (by decide)
    have e37 := sn 37 (by decide) (by decide)
    obtain ⟨k1, k2, k3, k4, k5⟩ := hR
    refine ⟨?_, fun j hj => ?_, ?_, ?_, ?_⟩
    · unfold kr_bd; rw [e39]; exact k1
    · by_cases hjj : j = 6 * a + f
      · rw [hjj, szf]
        exact ⟨by rw [s35, pk_us], by omega⟩
      · rw [szo j hjj, s35, pk_un hjj]
        exact k2 j hj
    · unfold kr_fr; rw [e38]; exact k3
    · rw [e41]; exact k4
    · rw [e37]; exact k5
  have dz : ∀ s, s < 3 → D (23 + 7 * a + s) = C (23 + 7 * a + s) := fun s hs => dn _ (by omega) (by omega) (by omega)
  have dc := dn (19 + 7 * a) (by omega) (by omega) (by omega)
  have k5 : ∀ r, r < 12 → C 4 r = nI a → D 4 r = nI a ∧ ∀ k, k < 4 → D 5 (4 * r + k) = C 5 (4 * r + k) := fun r hr hc => hk a (by omega) 0 (by decide) r hr hc
  have k8 : ∀ r, r < 24 → C 7 r = nI a → D 7 r = nI a ∧ ∀ k, k < 4 → D 8 (4 * r + k) = C 8 (4 * r + k) := fun r hr hc => hk a (by omega) 1 (by decide) r hr hc
  have hB : ki_B D S a L := by
    refine ⟨by rw [l1]; unfold kr_fr; rw [sn 38 (by decide) (by decide)], l2, l3, fun y hy hn => ?_, fun i y hi => ?_, fun i k y z hik hi hk => ?_⟩
    · rw [dz y hy]
      exact l4 y hy hn
    · have hy := l3 y (List.mem_of_getElem? hi)
      obtain ⟨q1, q2, ⟨r1, r2, r3, r4⟩, ⟨f1, p1', q6, q7, q8, q9⟩, q10⟩ := l5 i y hi
      rw [dz y hy, dc, sn 36 (by decide) (by decide), sn 37 (by decide) (by decide)]
      exact ⟨q1, q2, ⟨r1, r2, r3, (k5 r1 r2 r4).1⟩, ⟨f1, p1', q6, q7, Nat.lt_of_lt_of_le q8 (szle _), q9⟩, q10⟩
    · rw [dz y (l3 y (List.mem_of_getElem? hi)), dz z (l3 z (List.mem_of_getElem? hk)), sn 36 (by decide) (by decide)]
      exact l6 i k y z hik hi hk
  refine ⟨?_, hB⟩
  refine kj_app h ha hSok (sn 39 (by decide) (by decide)) (sn 41 (by decide) (by decide)) (sn 42 (by decide) (by decide)) (sn 43 (by decide) (by decide)) (sn 44 (by decide) (by decide)) hH hNN (fun k q1 q2 => dn k (by omega) (by omega) (by omega)) (fun o ho hoa => ⟨fun k q1 q2 => dn k (by omega) (by omega) (by omega), fun y _ => by rw [s34, pk_un (by omega)], fun f _ => by rw [s35, pk_un (by omega)], fun i hi => ⟨by rw [sn 36 (by decide) (by decide)], by rw [sn 37 (by decide) (by decide)]⟩, by rw [sn 38 (by decide) (by decide)]⟩) (fun e he _ => hk e he) ⟨⟨fun f0 hf0 => ?_, hb6⟩, by rw [dc]; exact h2, hP, ⟨L, hB⟩, ?_⟩
  · rw [d20, s35]
    by_cases hff : f0 = f
    · rw [hff, pk_us, pk_us]
    · rw [pk_un hff, pk_un (by omega)]
      exact h1.1 f0 hf0
  · intro f0 i0 r0 hf0 hi0 hr0 hr24
    by_cases hw : f0 = f ∧ i0 = n
    · obtain ⟨rfl, rfl⟩ := hw
      obtain ⟨w1, w2⟩ := hW r0 hr24 hr0
      rw [s34, pk_us]
      refine ⟨fun y r1 hy hyp hyf hr1 => ?_, fun hno => w2 (fun y hy => by rw [← dz y hy]; exact hno y hy)⟩
      rw [dz y hy] at hyp hyf ⊢
      have hym : y ∈ L := by
        by_cases hm : y ∈ L
        · exact hm
        · have := (l4 y hy hm).1
          rw [hyf] at this
          exact absurd this (nI_m1 (by omega))
      obtain ⟨k, hk'⟩ := List.getElem?_of_mem hym
      obtain ⟨-, -, ⟨r', t1, t2, t3⟩, -⟩ := l5 k y hk'
      have e : r1 = r' := (nI_eq (by omega) (by omega)).mp (hyf.symm.trans t2)
      subst e
      rw [(k5 r1 hr1 t3).2 _ (by omega)]
      exact w1 y r1 hy hyp hyf hr1
    · have hi1 : i0 < kr_sz R (6 * a + f0) := by
        by_cases hff : f0 = f
        · subst hff
          rw [szf] at hi0
          rw [hn]
          have : i0 ≠ n := fun q => hw ⟨rfl, q⟩
          omega
        · rw [szo _ (by omega)] at hi0
          exact hi0
      have h24 := (hR.2.1 (6 * a + f0) (by omega)).2
      have hq : 6 * f0 + i0 / 4 ≠ 6 * f + n / 4 ∨ n % 4 ≠ 0 := by
        by_cases hff : f0 = f
        · subst hff
          omega
        · omega
      rw [d21 _ hq] at hr0
      have hown : C 7 r0 = nI a := by
        obtain ⟨r', t1, t2, t3⟩ := p1 f0 (i0 / 4) hf0 (by omega) (by omega)
        have e : r0 = r' := (nI_eq (by omega) (by omega)).mp (hr0.symm.trans t2)
        rw [e]; exact t3
      obtain ⟨w1, w2⟩ := hwd f0 i0 r0 hf0 hi1 hr0 hr24
      have hidx : 144 * a + 24 * f0 + i0 ≠ 144 * a + 24 * f + n := by
        by_cases hff : f0 = f
        · have : i0 ≠ n := fun q => hw ⟨hff, q⟩
          omega
        · omega
      rw [s34, pk_un hidx, (k8 r0 hr24 hown).2 _ (by omega)]
      refine ⟨fun y r1 hy hyp hyf hr1 => ?_, fun hno => w2 (fun y hy => by rw [← dz y hy]; exact hno y hy)⟩
      rw [dz y hy] at hyp hyf ⊢
      have hym : y ∈ L := by
        by_cases hm : y ∈ L
        · exact hm
        · have := (l4 y hy hm).1
          rw [hyf] at this
          exact absurd this (nI_m1 (by omega))
      obtain ⟨k, hk'⟩ := List.getElem?_of_mem hym
      obtain ⟨-, -, ⟨r', t1, t2, t3⟩, -⟩ := l5 k y hk'
      have e : r1 = r' := (nI_eq (by omega) (by omega)).mp (hyf.symm.trans t2)
      subst e
      rw [(k5 r1 hr1 t3).2 _ (by omega)]
      exact w1 y r1 hy hyp hyf hr1
end
section
/-! a file grows: within its last block, or with a new one -/
theorem kr_c_set {R S : kb_M} {a f m : Nat} (ha : a < 2) (hf : f < 6) (s35 : S 35 = upd (R 35) (6 * a + f) (nI m)) (hm : m < 1000) (sn : ∀ k, k ≠ 34 → k ≠ 35 → S k = R k) : (kr_c S a 1 + (kr_sz R (6 * a + f) + 3) / 4 = kr_c R a 1 + (m + 3) / 4) ∧ (∀ e b, e < 4 → b < 2 → ¬ (e = a ∧ b = 1) → kr_c S e b = kr_c R e b) := by
  refine ⟨?_, fun e b he hb hne => ?_⟩
  · unfold kr_c
    rw [if_pos ha, if_pos ha, if_neg (by decide), if_neg (by decide)]
    exact (kr_b_set s35 hm 6).2 hf
  · by_cases he2 : e < 2
    · unfold kr_c
      rw [if_pos he2, if_pos he2]
      by_cases hb0 : b = 0
      · rw [if_pos hb0, if_pos hb0]
        unfold kr_fr
        rw [sn 38 (by decide) (by decide)]
      · rw [if_neg hb0, if_neg hb0]
        exact kr_b_sa (fun f0 hf0 => by rw [s35, pk_un (by omega)]) 6 (Nat.le_refl _)
    · have : e = 2 + (e - 2) := by omega
      rw [this, kr_c_g (by omega), kr_c_g (by omega)]
      have q := kr_l_eq (R := R) (S := S) (g := e - 2) (b := nI b) (kr_bd R (e - 2)) (fun u hu => ⟨by rw [sn 41 (by decide) (by decide)], by rw [sn 42 (by decide) (by decide)]⟩)
      unfold kr_bd at q ⊢
      rw [sn 39 (by decide) (by decide), q]
theorem kz_len {N B : Nat} {C R : kb_M} (h : ki_Z N B C R) {a : Nat} (ha : a < 2) {L : List Nat} (hL : ki_B C R a L) {f n : Nat} {x : Int32} (hf : f < 6) (hn : kr_sz R (6 * a + f) = n) (hn24 : n < 24) (h4 : n % 4 ≠ 0)
    (hW : ∀ r, r < 24 → C (21 + 7 * a) (6 * f + n / 4) = nI r → (∀ s r0, s < 3 → C (23 + 7 * a + s) 1 = nI (6 * f + n / 4) → C (23 + 7 * a + s) 0 = nI r0 → r0 < 12 → C 5 (4 * r0 + n % 4) = x ∧ (C (23 + 7 * a + s) 3 = 0 → C 8 (4 * r + n % 4) = x)) ∧ ((∀ s, s < 3 → C (23 + 7 * a + s) 1 ≠ nI (6 * f + n / 4)) → C 8 (4 * r + n % 4) = x)) : ki_Z N B (kb_up C (20 + 7 * a) f (nI (n + 1))) (kb_up (kb_up R 35 (6 * a + f) (nI (n + 1))) 34 (144 * a + 24 * f + n) x) ∧ ki_B (kb_up C (20 + 7 * a) f (nI (n + 1))) (kb_up (kb_up R 35 (6 * a + f) (nI (n + 1))) 34 (144 * a + 24 * f + n) x) a L := by
  have dn : ∀ k, k ≠ 20 + 7 * a → (kb_up C (20 + 7 * a) f (nI (n + 1))) k = C k := fun k hk => kb_up_ne _ _ _ hk
  have d20 : (kb_up C (20 + 7 * a) f (nI (n + 1))) (20 + 7 * a) = upd (C (20 + 7 * a)) f (nI (n + 1)) := kb_up_at _ _ _ _
  have sn : ∀ k, k ≠ 34 → k ≠ 35 → (kb_up (kb_up R 35 (6 * a + f) (nI (n + 1))) 34 (144 * a + 24 * f + n) x) k = R k := fun k k1 k2 => by rw [kb_up_ne _ _ _ k1, kb_up_ne _ _ _ k2]
  have s35 : (kb_up (kb_up R 35 (6 * a + f) (nI (n + 1))) 34 (144 * a + 24 * f + n) x) 35 = upd (R 35) (6 * a + f) (nI (n + 1)) := by rw [kb_up_ne _ _ _ (by decide), kb_up_at]
  have s34 : (kb_up (kb_up R 35 (6 * a + f) (nI (n + 1))) 34 (144 * a + 24 * f + n) x) 34 = upd (R 34) (144 * a + 24 * f + n) x := by rw [kb_up_at, kb_up_ne _ _ _ (by decide)]
  generalize kb_up C (20 + 7 * a) f (nI (n + 1)) = D at *
  generalize kb_up (kb_up R 35 (6 * a + f) (nI (n + 1))) 34 (144 * a + 24 * f + n) x = S at *
  have hA := h.1.2.2.2.2.2 a ha
  obtain ⟨c1, c2⟩ := kr_c_set ha hf s35 (by omega) sn
  rw [hn] at c1
  have c1 : kr_c S a 1 = kr_c R a 1 := by omega
  have szf : kr_sz S (6 * a + f) = n + 1 := by unfold kr_sz; rw [s35, pk_us, nI_clamp (by omega)]
  have szo : ∀ j, j ≠ 6 * a + f → kr_sz S j = kr_sz R j := fun j hj => by unfold kr_sz; rw [s35, pk_un hj]
  have val : ∀ f0 p, f0 < 6 → (4 * p < kr_sz S (6 * a + f0) ↔ 4 * p < kr_sz R (6 * a + f0)) := by
    intro f0 p hf0
    by_cases hff : f0 = f
    · rw [hff, szf, hn]; omega
    · rw [szo _ (by omega)]
  obtain ⟨J, hB⟩ := ka_grow h.1 ha hL hf hn hn24 d20 s35 s34 sn (fun b hb r hr => by rw [dn _ (by omega)]; exact h.1.2.2.1 b hb r hr)
    (fun b hb e he => by
      rw [dn _ (by omega), h.1.2.2.2.1 b hb e he]
      by_cases hea : e = a ∧ b = 1
      · rw [hea.1, hea.2, c1]
      · rw [c2 e b he hb hea])
    (fun k _ k2 _ => dn k k2) (fun e _ => kk_rows e (fun b hb => ⟨dn _ (by omega), dn _ (by omega)⟩)) (fun q _ => by rw [dn _ (by omega)])
    (by
      have e1 : kr_c S a 1 = kr_b S a 6 := by unfold kr_c; rw [if_pos ha, if_neg (by decide)]
      have e2 : kr_c R a 1 = kr_b R a 6 := by unfold kr_c; rw [if_pos ha, if_neg (by decide)]
      have := hA.1.2
      omega)
    ⟨fun f0 p hf0 hp hlt => by rw [dn _ (by omega), dn _ (by omega)]; exact hA.2.2.1.1 f0 p hf0 hp ((val f0 p hf0).mp hlt), fun f0 p hf0 hp hlt => by rw [dn _ (by omega)]; exact hA.2.2.1.2.1 f0 p hf0 hp (fun q => hlt ((val f0 p hf0).mpr q)), by rw [dn _ (by omega)]; exact hA.2.2.1.2.2⟩
    (by rw [dn _ (by omega), dn 8 (by omega)]; exact hW)
  refine ⟨?_, hB⟩
  obtain ⟨x0, x1⟩ := h.2.2.2.2
  have e19 := dn 19 (by omega)
  have e26 := dn 26 (by omega)
  have s33 := sn 33 (by decide) (by decide)
  exact kz_cnt h J (dn 1 (by omega)) (dn 3 (by omega)) (dn 6 (by omega)) (fun k q1 q2 => dn k (by omega)) (by rw [e19]) (by rw [e26]) (by rw [e19, e26, s33]; exact x0) (by rw [e19, e26, s33]; exact x1) (by rw [s33]) (sn 39 (by decide) (by decide)) (sn 40 (by decide) (by decide)) (sn 42 (by decide) (by decide)) (sn 43 (by decide) (by decide))
/-- a new block for the next part -/
def ka_bk (C : kb_M) (a f n r : Nat) : kb_M := kb_up (kb_up (kx_bn C 1 r (nI a)) (21 + 7 * a) (6 * f + n / 4) (nI r)) (20 + 7 * a) f (nI (n + 1))
theorem kz_blk {N B : Nat} {C R : kb_M} (h : ki_Z N B C R) {a : Nat} (ha : a < 2) {f n r : Nat} (hf : f < 6) (hn : kr_sz R (6 * a + f) = n) (hn24 : n < 24) (h4 : n % 4 = 0) (hb6 : kr_b R a 6 < 6) (hr : r < 24) (hfree : C 7 r = -1) : ki_Z N B (ka_bk C a f n r) (kb_up (kb_up R 35 (6 * a + f) (nI (n + 1))) 34 (144 * a + 24 * f + n) 0) := by
  have hA := h.1.2.2.2.2.2 a ha
  obtain ⟨L, hL⟩ := hA.2.2.2.1
  have d20 : (ka_bk C a f n r) (20 + 7 * a) = upd (C (20 + 7 * a)) f (nI (n + 1)) := by unfold ka_bk kx_bn; rw [kb_up_at, kb_up_ne _ _ _ (by omega), kb_ro_ne _ _ (by omega), kb_up_ne _ _ _ (by omega)]
  have d21 : (ka_bk C a f n r) (21 + 7 * a) = upd (C (21 + 7 * a)) (6 * f + n / 4) (nI r) := by unfold ka_bk kx_bn; rw [kb_up_ne _ _ _ (by omega), kb_up_at, kb_ro_ne _ _ (by omega), kb_up_ne _ _ _ (by omega)]
  have d7 : (ka_bk C a f n r) 7 = upd (C 7) r (nI a) := by unfold ka_bk kx_bn; rw [kb_up_ne _ _ _ (by omega), kb_up_ne _ _ _ (by omega), kb_ro_ne _ _ (by omega), kb_up_at]
  have d8 : (ka_bk C a f n r) 8 = fun j => if j / 4 = r then 0 else C 8 j := by unfold ka_bk kx_bn; rw [kb_up_ne _ _ _ (by omega), kb_up_ne _ _ _ (by omega), kb_ro_at]
  have dn : ∀ k, k ≠ 7 → k ≠ 8 → k ≠ 20 + 7 * a → k ≠ 21 + 7 * a → (ka_bk C a f n r) k = C k := fun k k1 k2 k3 k4 => by unfold ka_bk kx_bn; rw [kb_up_ne _ _ _ k3, kb_up_ne _ _ _ k4, kb_ro_ne _ _ (by omega), kb_up_ne _ _ _ (by omega)]
  have sn : ∀ k, k ≠ 34 → k ≠ 35 → (kb_up (kb_up R 35 (6 * a + f) (nI (n + 1))) 34 (144 * a + 24 * f + n) 0) k = R k := fun k k1 k2 => by rw [kb_up_ne _ _ _ k1, kb_up_ne _ _ _ k2]
  have s35 : (kb_up (kb_up R 35 (6 * a + f) (nI (n + 1))) 34 (144 * a + 24 * f + n) 0) 35 = upd (R 35) (6 * a + f) (nI (n + 1)) := by rw [kb_up_ne _ _ _ (by decide), kb_up_at]
  have s34 : (kb_up (kb_up R 35 (6 * a + f) (nI (n + 1))) 34 (144 * a + 24 * f + n) 0) 34 = upd (R 34) (144 * a + 24 * f + n) 0 := by rw [kb_up_at, kb_up_ne _ _ _ (by decide)]
  generalize ka_bk C a f n r = D at *
  generalize kb_up (kb_up R 35 (6 * a + f) (nI (n + 1))) 34 (144 * a + 24 * f + n) 0 = S at *
  obtain ⟨c1, c2⟩ := kr_c_set ha hf s35 (by omega) sn
  rw [hn] at c1
  have c1 : kr_c S a 1 = kr_c R a 1 + 1 := by omega
  have szf : kr_sz S (6 * a + f) = n + 1 := by unfold kr_sz; rw [s35, pk_us, nI_clamp (by omega)]
  have szo : ∀ j, j ≠ 6 * a + f → kr_sz S j = kr_sz R j := fun j hj => by unfold kr_sz; rw [s35, pk_un hj]
  obtain ⟨p1, p2, p3⟩ := hA.2.2.1
  have val : ∀ f0 p, f0 < 6 → 6 * f0 + p ≠ 6 * f + n / 4 → p < 6 → (4 * p < kr_sz S (6 * a + f0) ↔ 4 * p < kr_sz R (6 * a + f0)) := by
    intro f0 p hf0 hne hp
    by_cases hff : f0 = f
    · subst hff
      rw [szf, hn]
      omega
    · rw [szo _ (by omega)]
  have key : ∀ b, b < 2 → ∀ q, q < 12 + 12 * b → ¬ (b = 1 ∧ q = r) → D (4 + 3 * b) q = C (4 + 3 * b) q ∧ ∀ k, k < 4 → D (5 + 3 * b) (4 * q + k) = C (5 + 3 * b) (4 * q + k) := by
    intro b hb q hq hne
    by_cases hb1 : b = 1
    · subst hb1
      have hqr : q ≠ r := fun e => hne ⟨rfl, e⟩
      show D 7 q = C 7 q ∧ ∀ k, k < 4 → D 8 (4 * q + k) = C 8 (4 * q + k)
      rw [d7, d8, pk_un hqr]
      exact ⟨rfl, fun k hk => if_neg (by omega)⟩
    · rw [dn (4 + 3 * b) (by omega) (by omega) (by omega) (by omega), dn (5 + 3 * b) (by omega) (by omega) (by omega) (by omega)]
      exact ⟨rfl, fun _ _ => rfl⟩
  have nocache : ∀ s, s < 3 → C (23 + 7 * a + s) 1 ≠ nI (6 * f + n / 4) := by
    intro s hs hp
    by_cases hm : s ∈ L
    · obtain ⟨j, hj⟩ := List.getElem?_of_mem hm
      obtain ⟨m1, -, -, ⟨f1, q1, f2, f3, f4, f5⟩, -⟩ := hL.2.2.2.2.1 j s hj
      have e : 6 * f1 + q1 = 6 * f + n / 4 := (nI_eq (by omega) (by omega)).mp ((m1.trans f5).symm.trans hp)
      have e1 : f1 = f := by omega
      subst e1
      omega
    · rw [(hL.2.2.2.1 s hs hm).2.1] at hp
      exact nI_m1 (a := 6 * f + n / 4) (by omega) hp.symm
  obtain ⟨J, hB⟩ := ka_grow h.1 ha hL hf hn hn24 d20 s35 s34 sn
    (fun b hb q hq => by
      by_cases hbr : b = 1 ∧ q = r
      · obtain ⟨rfl, rfl⟩ := hbr
        refine Or.inr ⟨a, by omega, ?_⟩
        show D 7 q = nI a
        rw [d7, pk_us]
      · rw [(key b hb q hq hbr).1]
        exact h.1.2.2.1 b hb q hq)
    (fun b hb e he => by
      by_cases hb1 : b = 1
      · subst hb1
        have h0 := h.1.2.2.2.1 1 (by decide) e he
        show kp_c (D 7) (nI e) 24 = kr_c S e 1
        have h0 : kp_c (C 7) (nI e) 24 = kr_c R e 1 := h0
        have u := kp_c_upd (f := C 7) (r := r) (x := nI a) (e := nI e) 24 hr
        rw [← d7, hfree, if_neg (fun q => nI_m1 (a := e) (by omega) q.symm)] at u
        by_cases hea : e = a
        · subst hea
          rw [if_pos rfl] at u
          omega
        · rw [if_neg (fun q => hea ((nI_eq (by omega) (by omega)).mp q).symm)] at u
          rw [c2 e 1 he (by decide) (fun q => hea q.1)]
          omega
      · rw [dn _ (by omega) (by omega) (by omega) (by omega), h.1.2.2.2.1 b hb e he, c2 e b he hb (fun q => hb1 q.2)])
    (fun k k1 k2 k3 => dn k (by omega) (by omega) k2 k3)
    (fun e he b hb q hq hc => by
      have hne : ¬ (b = 1 ∧ q = r) := by
        rintro ⟨rfl, rfl⟩
        have hc : C 7 q = nI e := hc
        rw [hfree] at hc
        exact nI_m1 (a := e) (by omega) hc.symm
      obtain ⟨y1, y2⟩ := key b hb q hq hne
      exact ⟨by rw [y1]; exact hc, y2⟩)
    (fun q hq => by
      rw [d21, pk_un (by omega)])
    (by
      have e1 : kr_c S a 1 = kr_b S a 6 := by unfold kr_c; rw [if_pos ha, if_neg (by decide)]
      have e2 : kr_c R a 1 = kr_b R a 6 := by unfold kr_c; rw [if_pos ha, if_neg (by decide)]
      omega)
    ⟨fun f0 p hf0 hp hlt => by
      by_cases hq : 6 * f0 + p = 6 * f + n / 4
      · exact ⟨r, hr, by rw [d21, hq, pk_us], by rw [d7, pk_us]⟩
      · obtain ⟨r', t1, t2, t3⟩ := p1 f0 p hf0 hp ((val f0 p hf0 hq hp).mp hlt)
        have hrr : r' ≠ r := fun e => by
          rw [e, hfree] at t3
          exact nI_m1 (a := a) (by omega) t3.symm
        exact ⟨r', t1, by rw [d21, pk_un hq]; exact t2, by rw [d7, pk_un hrr]; exact t3⟩,
    fun f0 p hf0 hp hlt => by
      by_cases hq : 6 * f0 + p = 6 * f + n / 4
      · exfalso
        have e1 : f0 = f := by omega
        subst e1
        rw [szf] at hlt
        omega
      · rw [d21, pk_un hq]
        exact p2 f0 p hf0 hp (fun q => hlt ((val f0 p hf0 hq hp).mpr q)),
    by
      have un : ∀ j, j < 36 → j ≠ 6 * f + n / 4 → C (21 + 7 * a) j ≠ nI r := by
        intro j hj hjq hc
        by_cases hv : 4 * (j % 6) < kr_sz R (6 * a + j / 6)
        · obtain ⟨r', t1, t2, t3⟩ := p1 (j / 6) (j % 6) (by omega) (by omega) hv
          rw [show 6 * (j / 6) + j % 6 = j by omega, hc] at t2
          have e : r = r' := (nI_eq (by omega) (by omega)).mp t2
          rw [← e, hfree] at t3
          exact nI_m1 (a := a) (by omega) t3.symm
        · have := p2 (j / 6) (j % 6) (by omega) (by omega) hv
          rw [show 6 * (j / 6) + j % 6 = j by omega, hc] at this
          exact nI_m1 (a := r) (by omega) this
      rw [d21]
      intro i j hi hj hne heq
      by_cases hiq : i = 6 * f + n / 4
      · by_cases hjq : j = 6 * f + n / 4
        · omega
        · rw [hiq, pk_us, pk_un hjq] at heq
          exact absurd heq.symm (un j hj hjq)
      · by_cases hjq : j = 6 * f + n / 4
        · rw [hjq, pk_us, pk_un hiq] at heq
          exact absurd heq (un i hi hiq)
        · rw [pk_un hiq] at hne
          rw [pk_un hiq, pk_un hjq] at heq
          exact p3 i j hi hj hne heq⟩
    (fun r' hr' hd => by
      rw [d21, pk_us] at hd
      have e : r = r' := (nI_eq (by omega) (by omega)).mp hd
      subst e
      refine ⟨fun s r0 hs hp _ _ => absurd hp (nocache s hs), fun _ => ?_⟩
      rw [d8]
      exact if_pos (by omega))
  obtain ⟨x0, x1⟩ := h.2.2.2.2
  have e19 := dn 19 (by omega) (by omega) (by omega) (by omega)
  have e26 := dn 26 (by omega) (by omega) (by omega) (by omega)
  have s33 := sn 33 (by decide) (by decide)
  exact kz_cnt h J (dn 1 (by omega) (by omega) (by omega) (by omega)) (dn 3 (by omega) (by omega) (by omega) (by omega)) (dn 6 (by omega) (by omega) (by omega) (by omega)) (fun k q1 q2 => dn k (by omega) (by omega) (by omega) (by omega)) (by rw [e19]) (by rw [e26]) (by rw [e19, e26, s33]; exact x0) (by rw [e19, e26, s33]; exact x1) (by rw [s33]) (sn 39 (by decide) (by decide)) (sn 40 (by decide) (by decide)) (sn 42 (by decide) (by decide)) (sn 43 (by decide) (by decide))
end
section
/-! append: the walks -/
set_option maxRecDepth 100000 in
theorem cq_room0 {a f n : Nat} (ha : a < 2) (hf : f < 6) (C : kb_M) (hl : C (20 + 7 * a) f = nI n) (hn : n < 24) (h4 : n % 4 ≠ 0) : kb_E (kb_en kz_App_makeRoomForWord [.inr (some (19 + 7 * a)), .inl (nI f)] C) (fun q => q = (some (.inl 1), C)) := by
  have hcl : (nI f).toNatClampNeg = f := nI_clamp (by omega)
  have er : C (20 + 7 * a) (nI f).toNatClampNeg - C (20 + 7 * a) (nI f).toNatClampNeg / Int32.ofInt 4 * Int32.ofInt 4 = nI (n % 4) := by rw [hcl, hl, ko_rem hn]
  have e0 : C (20 + 7 * a) (nI f).toNatClampNeg - C (20 + 7 * a) (nI f).toNatClampNeg / Int32.ofInt 4 * Int32.ofInt 4 ≠ 0 := by
    rw [er]
    exact nI_ne (a := n % 4) (b := 0) (by omega) (by omega) h4
  have ha01 : a = 0 ∨ a = 1 := by omega
  rcases ha01 with rfl | rfl
  all_goals
    refine kb_go 60 [] ?_
    refine And.intro (kb_in_nI (by omega) (by omega)) (And.intro rfl ?_)
    exact And.intro (fun h => absurd (of_decide_eq_true h) e0) (fun _ => And.intro rfl rfl)
set_option maxRecDepth 100000 in
theorem cq_room1 {a f n : Nat} (ha : a < 2) (hf : f < 6) (C : kb_M) (hl : C (20 + 7 * a) f = nI n) (hn : n ≤ 24) (h4 : n % 4 = 0) (Sh : n < 24 → kb_E (kb_en kz_Pool_hasFullShare [.inr (some 6), .inl (C (19 + 7 * a) 3)] C) (fun q => q = (some (.inl 1), C))) : kb_E (kb_en kz_App_makeRoomForWord [.inr (some (19 + 7 * a)), .inl (nI f)] C) (fun q => q = (some (.inl 0), C)) := by
  have hcl : (nI f).toNatClampNeg = f := nI_clamp (by omega)
  have ed : C (20 + 7 * a) (nI f).toNatClampNeg / Int32.ofInt 4 = nI (n / 4) := by rw [hcl, hl, show Int32.ofInt 4 = nI 4 from rfl, pk_div (by omega) (by omega) (by omega)]
  have er : C (20 + 7 * a) (nI f).toNatClampNeg - C (20 + 7 * a) (nI f).toNatClampNeg / Int32.ofInt 4 * Int32.ofInt 4 = 0 := by
    rw [hcl, hl, show Int32.ofInt 4 = nI 4 from rfl, pk_rem (by omega) (by omega) (by omega), h4]
    rfl
  have fin : ¬ (Int8.ofInt 6).toInt32 ≤ C (20 + 7 * a) (nI f).toNatClampNeg / Int32.ofInt 4 → n < 24 := by
    intro q
    rw [ed, show (Int8.ofInt 6).toInt32 = nI 6 from rfl] at q
    by_cases h : n < 24
    · exact h
    · exact absurd (nI_le (by omega) (by omega)) q
  have ha01 : a = 0 ∨ a = 1 := by omega
  rcases ha01 with rfl | rfl
  all_goals
    refine kb_go 60 [] ?_
    refine And.intro (kb_in_nI (by omega) (by omega)) (And.intro rfl ?_)
    refine And.intro (fun _ => ?_) (fun h => absurd er (of_decide_eq_false h))
    refine And.intro (kb_in_nI (by omega) (by omega)) (And.intro rfl ?_)
    refine And.intro (fun _ => And.intro rfl rfl) (fun h => ?_)
    refine kb_E_to (Sh (fin (of_decide_eq_false h))) ?_
    exact And.intro (fun h => absurd h (by decide)) (fun _ => And.intro rfl rfl)
set_option maxRecDepth 100000 in
theorem cq_room2 {a f n : Nat} (ha : a < 2) (hf : f < 6) (C : kb_M) {Q Q1 : kb_R → Prop} (hl : C (20 + 7 * a) f = nI n) (hn : n < 24) (h4 : n % 4 = 0) (Sh : kb_E (kb_en kz_Pool_hasFullShare [.inr (some 6), .inl (C (19 + 7 * a) 3)] C) (fun q => q = (some (.inl 0), C))) (W : kb_E (kb_en kz_Kernel_bindForApplication [.inr (some 1), .inl (C (19 + 7 * a) 3), .inl (nI 1)] C) Q1) (K : ∀ v M, Q1 (v, M) → ∃ r, r < 24 ∧ v = some (.inl (nI r)) ∧ Q (some (.inl 1), kb_up M (21 + 7 * a) (6 * f + n / 4) (nI r))) : kb_E (kb_en kz_App_makeRoomForWord [.inr (some (19 + 7 * a)), .inl (nI f)] C) Q := by
  have hcl : (nI f).toNatClampNeg = f := nI_clamp (by omega)
  have ed : C (20 + 7 * a) (nI f).toNatClampNeg / Int32.ofInt 4 = nI (n / 4) := by rw [hcl, hl, show Int32.ofInt 4 = nI 4 from rfl, pk_div (by omega) (by omega) (by omega)]
  have er : C (20 + 7 * a) (nI f).toNatClampNeg - C (20 + 7 * a) (nI f).toNatClampNeg / Int32.ofInt 4 * Int32.ofInt 4 = 0 := by
    rw [hcl, hl, show Int32.ofInt 4 = nI 4 from rfl, pk_rem (by omega) (by omega) (by omega), h4]
    rfl
  have fin : ¬ (Int8.ofInt 6).toInt32 ≤ C (20 + 7 * a) (nI f).toNatClampNeg / Int32.ofInt 4 := by
    rw [ed, show (Int8.ofInt 6).toInt32 = nI 6 from rfl]
    exact Int32.not_le.mpr (nI_lt (by omega) (by omega))
  have hq6 : (nI (6 * f + n / 4)).toNatClampNeg = 6 * f + n / 4 := nI_clamp (by omega)
  have ix : nI f * (Int8.ofInt 6).toInt32 + C (20 + 7 * a) (nI f).toNatClampNeg / Int32.ofInt 4 = nI (6 * f + n / 4) := by rw [ed, Int32.mul_comm, kr_6 hf]
  have ha01 : a = 0 ∨ a = 1 := by omega
  rcases ha01 with rfl | rfl
  all_goals
    refine kb_go 60 [] ?_
    refine And.intro (kb_in_nI (by omega) (by omega)) (And.intro rfl ?_)
    refine And.intro (fun _ => ?_) (fun h => absurd er (of_decide_eq_false h))
    refine And.intro (kb_in_nI (by omega) (by omega)) (And.intro rfl ?_)
    refine And.intro (fun h => absurd (of_decide_eq_true h) fin) (fun _ => ?_)
    refine kb_E_to Sh ?_
    refine And.intro (fun _ => ?_) (fun h => absurd h (by decide))
    refine kb_E_then W (fun v M hq => ?_)
    obtain ⟨r, r1, r2, r3⟩ := K v M hq
    subst r2
    refine And.intro (by rw [ix]; exact kb_in_nI (by omega) (by omega)) ?_
    rw [← hq6, ← ix] at r3
    refine And.intro (fun h => absurd (of_decide_eq_true h) (nI_m1 (by omega))) (fun _ => And.intro rfl r3)
set_option maxRecDepth 100000 in
theorem cq_append {a f n : Nat} (ha : a < 2) (hf : f < 6) (C : kb_M) (w : Int32) {Q Q1 : kb_R → Prop} (G : kb_E (kb_en kz_App_makeRoomForWord [.inr (some (19 + 7 * a)), .inl (nI f)] C) Q1) (K : ∀ v M, Q1 (v, M) → (v = some (.inl 0) ∧ Q (some (.inl 0), M)) ∨ (v = some (.inl 1) ∧ M (20 + 7 * a) f = nI n ∧ ∃ Q2, kb_E (kb_en kz_App_openPartOf [.inr (some (19 + 7 * a)), .inl (nI f), .inl (nI n)] (kb_up M (20 + 7 * a) f (nI (n + 1)))) Q2 ∧ ∀ v2 M2, Q2 (v2, M2) → ∃ s, s < 3 ∧ v2 = some (.inr (some (23 + 7 * a + s))) ∧ kb_E (kb_en kz_App_changeWord [.inr (some (19 + 7 * a)), .inr (some (23 + 7 * a + s)), .inl (nI n), .inl w] M2) (fun q => q.1 = some (.inl 1) ∧ Q q))) : kb_E (kb_en kz_App_appendWord [.inr (some (19 + 7 * a)), .inl (nI f), .inl w] C) Q := by
  have F := cq_isFile C (nI f)
  have h5 : 0 ≤ nI f ∧ nI f ≤ 5 := kr_out (n := 5) (by omega) (by omega)
  rw [if_pos h5] at F
  have hcl : (nI f).toNatClampNeg = f := nI_clamp (by omega)
  have conv : ∀ (M : kb_M) (Q2 : kb_R → Prop), M (20 + 7 * a) f = nI n → kb_E (kb_en kz_App_openPartOf [.inr (some (19 + 7 * a)), .inl (nI f), .inl (nI n)] (kb_up M (20 + 7 * a) f (nI (n + 1)))) Q2 → kb_E (kb_en kz_App_openPartOf [.inr (some (19 + 7 * a)), .inl (nI f), .inl (M (20 + 7 * a) (nI f).toNatClampNeg)] (kb_up M (20 + 7 * a) (nI f).toNatClampNeg (M (20 + 7 * a) (nI f).toNatClampNeg + 1))) Q2 := by
    intro M Q2 hm hq
    rw [hcl, hm, ← nI_succ]
    exact hq
  have conv2 : ∀ (M M2 : kb_M) (s : Nat) (Q2 : kb_R → Prop), M (20 + 7 * a) f = nI n → kb_E (kb_en kz_App_changeWord [.inr (some (19 + 7 * a)), .inr (some (23 + 7 * a + s)), .inl (nI n), .inl w] M2) Q2 → kb_E (kb_en kz_App_changeWord [.inr (some (19 + 7 * a)), .inr (some (23 + 7 * a + s)), .inl (M (20 + 7 * a) (nI f).toNatClampNeg), .inl w] M2) Q2 := by
    intro M M2 s Q2 hm hq
    rw [hcl, hm]
    exact hq
  have ha01 : a = 0 ∨ a = 1 := by omega
  rcases ha01 with rfl | rfl
  all_goals
    refine kb_go 60 [] ?_
    refine kb_E_to F ?_
    refine And.intro (fun h => absurd h (by decide)) (fun _ => ?_)
    refine kb_E_then G (fun v M hq => ?_)
    rcases K v M hq with ⟨k1, k2⟩ | ⟨k1, k2, Q2, k3, k4⟩
    · subst k1
      exact And.intro (fun h => absurd h (by decide)) (fun _ => And.intro rfl k2)
    · subst k1
      have k3 := conv M Q2 k2 k3
      refine And.intro (fun _ => ?_) (fun h => absurd h (by decide))
      refine And.intro (kb_in_nI (by omega) (by omega)) ?_
      refine And.intro (kb_in_nI (by omega) (by omega)) ?_
      refine And.intro (kb_in_nI (by omega) (by omega)) ?_
      refine kb_E_then k3 (fun v2 M2 hq2 => ?_)
      obtain ⟨s, s1, s2, s3⟩ := k4 v2 M2 hq2
      subst s2
      refine kb_E_then (conv2 M M2 s _ k2 s3) (fun v3 M3 hq3 => ?_)
      obtain ⟨t1, t2⟩ := hq3
      dsimp only at t1
      subst t1
      exact And.intro rfl t2
end
section
/-! append to a cached part -/
theorem kd_ro (R : kb_M) (g : Nat → Int32) {k : Nat} (f : Nat → Int32) (h : k ≠ 35) : kb_ro (kb_ro R 35 g) k f = kb_ro (kb_ro R k f) 35 g := by
  funext q
  unfold kb_ro
  by_cases h1 : q = k
  · rw [if_pos h1, if_neg (by omega), if_pos h1]
  · rw [if_neg h1]
    by_cases h2 : q = 35
    · rw [if_pos h2, if_pos h2]
    · rw [if_neg h2, if_neg h2, if_neg h1]
theorem kd_up (R : kb_M) (g : Nat → Int32) {k : Nat} (i : Nat) (x : Int32) (h : k ≠ 35) : kb_up (kb_ro R 35 g) k i x = kb_ro (kb_up R k i x) 35 g := by
  unfold kb_up
  rw [kb_ro_ne _ _ h, kd_ro _ _ _ h]
theorem kd_rm (R : kb_M) (g : Nat → Int32) (a j : Nat) : kr_rm (kb_ro R 35 g) a j = kb_ro (kr_rm R a j) 35 g := by
  unfold kr_rm kr_ri1
  rw [kb_ro_ne (j := 36) _ _ (by decide), kb_ro_ne (j := 37) _ _ (by decide), kd_ro _ _ _ (by decide), kd_ro _ _ _ (by decide), kd_up _ _ _ _ (by decide)]
  rfl
theorem kd_ad (R : kb_M) (g : Nat → Int32) (a : Nat) (p d : Int32) : kr_ad (kb_ro R 35 g) a p d = kb_ro (kr_ad R a p d) 35 g := by
  unfold kr_ad
  rw [kb_ro_ne (j := 38) _ _ (by decide), kd_up _ _ _ _ (by decide), kd_up _ _ _ _ (by decide), kd_up _ _ _ _ (by decide)]
  rfl
theorem kd_op {R : kb_M} (g : Nat → Int32) {a p j : Nat} (h : kr_fi R a (nI p) (kr_fr R a) = some j) : kr_op (kb_ro R 35 g) a p = kb_ro (kr_op R a p) 35 g := by
  unfold kr_op
  rw [kr_fi_eq (R := R) (S := kb_ro R 35 g) rfl, show kr_fr (kb_ro R 35 g) a = kr_fr R a from rfl, h]
  show kr_ad (kr_rm (kb_ro R 35 g) a j) a (nI p) (R 37 (3 * a + j)) = kb_ro (kr_ad (kr_rm R a j) a (nI p) (R 37 (3 * a + j))) 35 g
  rw [kd_rm, kd_ad]
theorem ki_B_fr {C D R : kb_M} {a : Nat} {L : List Nat} (h : ki_B C R a L) (d4 : D 4 = C 4) (d19 : D (19 + 7 * a) = C (19 + 7 * a)) (dz : ∀ s, s < 3 → D (23 + 7 * a + s) = C (23 + 7 * a + s)) : ki_B D R a L := by
  obtain ⟨l1, l2, l3, l4, l5, l6⟩ := h
  refine ⟨l1, l2, l3, fun y hy hn => by rw [dz y hy]; exact l4 y hy hn, fun i y hi => ?_, fun i k y z hik hi hk => ?_⟩
  · rw [dz y (l3 y (List.mem_of_getElem? hi)), d4, d19]
    exact l5 i y hi
  · rw [dz y (l3 y (List.mem_of_getElem? hi)), dz z (l3 z (List.mem_of_getElem? hk))]
    exact l6 i k y z hik hi hk
/-- one slot a part -/
theorem ka_uniq {C R : kb_M} {a : Nat} {L : List Nat} (hL : ki_B C R a L) {s y q : Nat} (hs : s < 3) (hy : y < 3) (hq : q < 36) (h1 : C (23 + 7 * a + s) 1 = nI q) (h2 : C (23 + 7 * a + y) 1 = nI q) : y = s := by
  obtain ⟨l1, l2, l3, l4, l5, l6⟩ := hL
  have mem : ∀ t, t < 3 → C (23 + 7 * a + t) 1 = nI q → t ∈ L := by
    intro t ht hp
    by_cases hm : t ∈ L
    · exact hm
    · rw [(l4 t ht hm).2.1] at hp
      exact absurd hp.symm (nI_m1 (by omega))
  obtain ⟨i, hi⟩ := List.getElem?_of_mem (mem s hs h1)
  obtain ⟨k, hk⟩ := List.getElem?_of_mem (mem y hy h2)
  have e : R 36 (3 * a + i) = R 36 (3 * a + k) := by rw [← (l5 i s hi).1, ← (l5 k y hk).1, h1, h2]
  by_cases hik : i = k
  · rw [hik, hk] at hi
    exact Option.some.inj hi
  · exfalso
    by_cases hlt : i < k
    · exact (l6 i k s y hlt hi hk).2.1 e
    · exact (l6 k i y s (by omega) hk hi).2.1 e.symm
theorem kb_up_self (M : kb_M) (k i : Nat) : kb_up M k i (M k i) = M := by
  funext q j
  by_cases hq : q = k
  · rw [hq, kb_up_at]
    by_cases hj : j = i
    · rw [hj, pk_us]
    · rw [pk_un hj]
  · rw [kb_up_ne _ _ _ hq]
theorem kb_up_twice (M : kb_M) (k i : Nat) (x y : Int32) : kb_up (kb_up M k i x) k i y = kb_up M k i y := by
  funext q j
  by_cases hq : q = k
  · rw [hq, kb_up_at, kb_up_at, kb_up_at]
    by_cases hj : j = i
    · rw [hj, pk_us, pk_us]
    · rw [pk_un hj, pk_un hj, pk_un hj]
  · rw [kb_up_ne _ _ _ hq, kb_up_ne _ _ _ hq, kb_up_ne _ _ _ hq]
theorem kb_up_comm (M : kb_M) {k l : Nat} (i j : Nat) (x y : Int32) (h : k ≠ l) : kb_up (kb_up M k i x) l j y = kb_up (kb_up M l j y) k i x := by
  funext q
  by_cases hq : q = k
  · rw [hq, kb_up_ne _ _ _ h, kb_up_at, kb_up_at, kb_up_ne _ _ _ h]
  · rw [kb_up_ne (j := q) (k := k) _ _ _ hq]
    by_cases hl : q = l
    · rw [hl, kb_up_at, kb_up_at, kb_up_ne _ _ _ (fun e => h e.symm)]
    · rw [kb_up_ne _ _ _ hl, kb_up_ne _ _ _ hl, kb_up_ne _ _ _ hq]
/-- the virtual way: the part is used, made dirty, the file grows, the word is written -/
theorem kz_dirty {N B : Nat} {T S : kb_M} (h : ki_Z N B T S) {a : Nat} (ha : a < 2) {L : List Nat} (hL : ki_B T S a L) {j s r f n : Nat} (w : Int32) (hj : L[j]? = some s) (hr : r < 12) (hfr : T (23 + 7 * a + s) 0 = nI r) (hf : f < 6) (hn : kr_sz S (6 * a + f) = n) (hn24 : n < 24) (h4 : n % 4 ≠ 0) (hpt : T (23 + 7 * a + s) 1 = nI (6 * f + n / 4)) : ki_Z N B (kb_up (kb_up (kb_up T (20 + 7 * a) f (nI (n + 1))) (23 + 7 * a + s) 3 1) 5 (4 * r + n % 4) w) (kb_up (kb_up (kb_up S 35 (6 * a + f) (nI (n + 1))) 34 (144 * a + 24 * f + n) w) 37 (3 * a + j) 1) := by
  have hs3 := hL.2.2.1 s (List.mem_of_getElem? hj)
  have hA := h.1.2.2.2.2.2 a ha
  have hpt1 : T (23 + 7 * a + s) 1 = nI (6 * f + (n - 1) / 4) := by rw [hpt]; congr 1; omega
  obtain ⟨b, b1, b2, b3⟩ := hA.2.2.1.1 f ((n - 1) / 4) hf (by omega) (by omega)
  have own := ((hA.2.2.2.2 f (n - 1) b hf (by omega) b2 b1).1 s r hs3 hpt1 hfr hr).1
  -- dirty
  have Z1 := kz_write h ha hL (T 5 (4 * r + (n - 1) % 4)) hj hr hfr hf (i := n - 1) (by omega) hpt1
  have B1 := (ka_write h.1 ha hL (T 5 (4 * r + (n - 1) % 4)) hj hr hfr hf (i := n - 1) (by omega) hpt1).2
  have e1 : kb_up (kb_up T (23 + 7 * a + s) 3 1) 5 (4 * r + (n - 1) % 4) (T 5 (4 * r + (n - 1) % 4)) = kb_up T (23 + 7 * a + s) 3 1 := by
    have : T 5 (4 * r + (n - 1) % 4) = (kb_up T (23 + 7 * a + s) 3 1) 5 (4 * r + (n - 1) % 4) := by rw [kb_up_ne _ _ _ (by omega)]
    rw [this, kb_up_self]
  have e2 : kb_up S 34 (144 * a + 24 * f + (n - 1)) (T 5 (4 * r + (n - 1) % 4)) = S := by rw [own, kb_up_self]
  rw [e1, e2] at Z1 B1
  -- longer
  have T1z : (kb_up T (23 + 7 * a + s) 3 1) (23 + 7 * a + s) = upd (T (23 + 7 * a + s)) 3 1 := kb_up_at _ _ _ _
  have p1 : (kb_up T (23 + 7 * a + s) 3 1) (23 + 7 * a + s) 1 = nI (6 * f + n / 4) := by rw [T1z, pk_un (by decide)]; exact hpt
  have f1 : (kb_up T (23 + 7 * a + s) 3 1) (23 + 7 * a + s) 0 = nI r := by rw [T1z, pk_un (by decide)]; exact hfr
  have c1 : (kb_up T (23 + 7 * a + s) 3 1) (23 + 7 * a + s) 3 = 1 := by rw [T1z, pk_us]
  have hsz : kr_sz (kb_up S 37 (3 * a + j) 1) (6 * a + f) = n := by unfold kr_sz; rw [kb_up_ne _ _ _ (by decide)]; exact hn
  generalize hT : kb_up T (23 + 7 * a + s) 3 1 = T1 at *
  obtain ⟨Z2, B2⟩ := kz_len (x := T1 5 (4 * r + n % 4)) Z1 ha B1 hf hsz hn24 h4 (fun r1 hr1 hb => by
    refine ⟨fun y r0 hy hyp hyf hr0 => ?_, fun hno => absurd p1 (hno s hs3)⟩
    have ey := ka_uniq B1 hs3 hy (by omega) p1 hyp
    subst ey
    have er : r0 = r := (nI_eq (by omega) (by omega)).mp (hyf.symm.trans f1)
    subst er
    refine ⟨rfl, fun hc => ?_⟩
    rw [c1] at hc
    exact absurd hc (by decide))
  -- the word
  have Z3 := kz_write Z2 ha B2 w hj hr (by rw [kb_up_ne _ _ _ (by omega)]; exact f1) hf (i := n) (by unfold kr_sz; rw [kb_up_ne _ _ _ (by decide), kb_up_at, pk_us, nI_clamp (by omega)]; omega) (by rw [kb_up_ne _ _ _ (by omega)]; exact p1)
  have m : kb_up (kb_up T1 (20 + 7 * a) f (nI (n + 1))) (23 + 7 * a + s) 3 1 = kb_up (kb_up T (20 + 7 * a) f (nI (n + 1))) (23 + 7 * a + s) 3 1 := by
    rw [← hT, kb_up_comm (k := 23 + 7 * a + s) (l := 20 + 7 * a) _ _ _ _ _ (by omega), kb_up_twice]
  have m2 : kb_up (kb_up (kb_up (kb_up (kb_up S 37 (3 * a + j) 1) 35 (6 * a + f) (nI (n + 1))) 34 (144 * a + 24 * f + n) (T1 5 (4 * r + n % 4))) 34 (144 * a + 24 * f + n) w) 37 (3 * a + j) 1 = kb_up (kb_up (kb_up S 35 (6 * a + f) (nI (n + 1))) 34 (144 * a + 24 * f + n) w) 37 (3 * a + j) 1 := by
    rw [kb_up_twice, kb_up_comm S (k := 37) (l := 35) _ _ _ _ (by decide), kb_up_comm (kb_up S 35 (6 * a + f) (nI (n + 1))) (k := 37) (l := 34) _ _ _ _ (by decide), kb_up_twice]
  rw [m, m2] at Z3
  exact Z3
end
section
/-! appendWord against the reference's append -/
def kp_app (N B : Nat) (R : kb_M) (a f : Nat) (w : Int32) (q : kb_R) : Prop := ∃ y, (y = 0 ∨ y = 1) ∧ q.1 = some (.inl y) ∧ (kr_app R a f w).1 = some (.inl y) ∧ ki_Z (N + 1) (B + 10) q.2 (kr_app R a f w).2
set_option maxHeartbeats 1000000 in
theorem op_appendHit {N B : Nat} {C R : kb_M} (h : ki_Z N B C R) (hN : N ≤ 600) {a f n j : Nat} (ha : a < 2) (hf : f < 6) (hn : kr_sz R (6 * a + f) = n) (hn24 : n < 24) (h4 : n % 4 ≠ 0) (hl : kr_fi R a (nI (6 * f + n / 4)) (kr_fr R a) = some j) (w : Int32) : ∃ Q2, kb_E (kb_en kz_App_openPartOf [.inr (some (19 + 7 * a)), .inl (nI f), .inl (nI n)] (kb_up C (20 + 7 * a) f (nI (n + 1)))) Q2 ∧ ∀ v2 M2, Q2 (v2, M2) → ∃ s, s < 3 ∧ v2 = some (.inr (some (23 + 7 * a + s))) ∧ kb_E (kb_en kz_App_changeWord [.inr (some (19 + 7 * a)), .inr (some (23 + 7 * a + s)), .inl (nI n), .inl w] M2) (fun q => q.1 = some (.inl 1) ∧ ki_Z (N + 1) (B + 5) q.2 (kr_ch (kb_up R 35 (6 * a + f) (nI (n + 1))) a f n w)) := by
  have hR := h.1.1
  have hA := h.1.2.2.2.2.2 a ha
  obtain ⟨L, hL⟩ := hA.2.2.2.1
  have hlen := hL.1
  have hq : 6 * f + n / 4 < 36 := by omega
  obtain ⟨hj, hp⟩ := kr_fi_lt hl
  obtain ⟨s, hs⟩ : ∃ s, L[j]? = some s := ⟨L[j]'(by omega), List.getElem?_eq_getElem (by omega)⟩
  obtain ⟨hs3, hj3, r, -, -, -, g1, g2, -, -, -, -, -, -, -⟩ := ka_slot hA hR ha hL hs
  have hpt : C (23 + 7 * a + s) 1 = nI (6 * f + n / 4) := (hL.2.2.2.2.1 j s hs).1.trans hp
  have dn : ∀ k, k ≠ 20 + 7 * a → (kb_up C (20 + 7 * a) f (nI (n + 1))) k = C k := fun k hk => kb_up_ne _ _ _ hk
  have hL1 : ki_B (kb_up C (20 + 7 * a) f (nI (n + 1))) R a L := ki_B_fr hL (dn 4 (by omega)) (dn _ (by omega)) (fun s hs => dn _ (by omega))
  have hz : kq_S (19 + 7 * a) (23 + 7 * a + s) := by unfold kq_S; omega
  have O : kb_E (kb_en kz_App_openPartOf [.inr (some (19 + 7 * a)), .inl (nI f), .inl (nI n)] (kb_up C (20 + 7 * a) f (nI (n + 1)))) (fun q => q = (some (.inr (some (23 + 7 * a + s))), ka_fin (kb_up C (20 + 7 * a) f (nI (n + 1))) (19 + 7 * a) (23 + 7 * a + s))) := by
    refine cq_open0 (kq_in ha) _ hf hn24 (by rw [show 19 + 7 * a + 1 = 20 + 7 * a by omega, kb_up_at, pk_us]; exact nI_lt (by omega) (by omega)) (ka_sf_hit hL1 hs hq hp) ?_
    exact cq_tail1 (kq_in ha) hz _ _ _ (by rw [dn _ (by omega), g2]; exact nI_m1 (by omega)) (by rw [dn _ (by omega)]; exact hpt)
  refine ⟨_, O, fun v2 M2 e => ?_⟩
  cases e
  have fz : ∀ M : kb_M, ∀ k, k ≠ 2 → (ka_fin M (19 + 7 * a) (23 + 7 * a + s)) (23 + 7 * a + s) k = M (23 + 7 * a + s) k := fun M k hk => by unfold ka_fin; rw [kb_up_at, pk_un hk, kb_up_ne _ _ _ (by omega)]
  refine ⟨s, hs3, rfl, kb_E_to (cq_change ha hs3 _ w g1 (by rw [fz _ 0 (by decide), dn _ (by omega)]; exact g2) hn24) ⟨rfl, ?_⟩⟩
  -- the virtual way
  have P := ko_hit h hN ha hL hs hp
  have eop : kr_op R a (6 * f + n / 4) = kr_ad (kr_rm R a j) a (nI (6 * f + n / 4)) (R 37 (3 * a + j)) := by unfold kr_op; rw [hl]
  rw [← eop] at P
  obtain ⟨s', L', s1, s2, s3, s4, s5, s6⟩ := P
  have es : s' = s := by
    have : 23 + 7 * a + s = 23 + 7 * a + s' := Option.some.inj (Sum.inr.inj (Option.some.inj s2))
    omega
  subst es
  dsimp only at s3 s4
  have sz : kr_sz (kr_op R a (6 * f + n / 4)) (6 * a + f) = n := by unfold kr_sz; rw [kr_op_ne _ _ _ (Or.inr rfl)]; exact hn
  have Z := kz_dirty s3 ha s4 w s5 g1 (by rw [fz _ 0 (by decide)]; exact g2) hf sz hn24 h4 (by rw [fz _ 1 (by decide)]; exact hpt)
  have em : ka_fin (kb_up C (20 + 7 * a) f (nI (n + 1))) (19 + 7 * a) (23 + 7 * a + s') = kb_up (ka_fin C (19 + 7 * a) (23 + 7 * a + s')) (20 + 7 * a) f (nI (n + 1)) := by
    unfold ka_fin
    rw [dn (19 + 7 * a) (by omega), kb_up_comm C (k := 20 + 7 * a) (l := 19 + 7 * a) _ _ _ _ (by omega), kb_up_comm _ (k := 20 + 7 * a) (l := 23 + 7 * a + s') _ _ _ _ (by omega)]
  have hpos : 0 < kr_fr (kr_op R a (6 * f + n / 4)) a := (kr_op_ok hR ha _).2
  have er : kr_ch (kb_up R 35 (6 * a + f) (nI (n + 1))) a f n w = kb_up (kb_up (kb_up (kr_op R a (6 * f + n / 4)) 35 (6 * a + f) (nI (n + 1))) 34 (144 * a + 24 * f + n) w) 37 (3 * a + (kr_fr (kr_op R a (6 * f + n / 4)) a - 1)) 1 := by
    unfold kr_ch
    rw [show kb_up R 35 (6 * a + f) (nI (n + 1)) = kb_ro R 35 (upd (R 35) (6 * a + f) (nI (n + 1))) from rfl, kd_op _ hl, ← kr_op_ne R a (6 * f + n / 4) (Or.inr rfl)]
    show kb_up (kb_up (kb_up (kr_op R a (6 * f + n / 4)) 35 (6 * a + f) (nI (n + 1))) 34 (144 * a + 24 * f + n) w) 37 (3 * a + kr_fr (kr_op R a (6 * f + n / 4)) a - 1) 1 = _
    congr 1
    omega
  rw [em, er]
  exact Z
end
section
/-! appendWord against the reference's append: all cases -/
set_option maxHeartbeats 1000000 in
theorem op_appendWord {N B : Nat} {C R : kb_M} (h : ki_Z N B C R) (hN : N ≤ 600) (hB : B + 20 < 2 ^ 30) {a f : Nat} (ha : a < 2) (hf : f < 6) (w : Int32) : kb_E (kb_en kz_App_appendWord [.inr (some (19 + 7 * a)), .inl (nI f), .inl w] C) (kp_app N B R a f w) := by
  have hR := h.1.1
  have hA := h.1.2.2.2.2.2 a ha
  obtain ⟨L, hL⟩ := hA.2.2.2.1
  obtain ⟨z1, z2⟩ := hR.2.1 (6 * a + f) (by omega)
  have hge := kr_b_ge (R := R) (a := a) (f := f) 6 hf
  have hl : C (20 + 7 * a) f = nI (kr_sz R (6 * a + f)) := (hA.1.1 f hf).trans z1
  have hK : C (19 + 7 * a) 3 = nI a := by
    obtain ⟨-, -, -, k4, k5⟩ := h.2.2.1
    have ha01 : a = 0 ∨ a = 1 := by omega
    rcases ha01 with rfl | rfl
    · exact k4
    · exact k5
  have Sh := ck_share h.1 h.2.2.1 (b := 1) (e := a) (by decide) (by omega)
  have ec : kr_c R a 1 = kr_b R a 6 := by unfold kr_c; rw [if_pos ha, if_neg (by decide)]
  rw [ec, ← hK] at Sh
  have hZ2 : ∀ D S, ki_Z (N + 1) (B + 5) D S → ki_Z (N + 1) (B + 10) D S := fun D S q => kz_mono q (by omega)
  generalize hn : kr_sz R (6 * a + f) = n at *
  by_cases h4 : n % 4 = 0
  · by_cases hb : 6 ≤ kr_b R a 6
    · -- no block to be had
      have eapp : kr_app R a f w = (some (.inl 0), R) := by unfold kr_app; rw [hn, if_pos ⟨h4, hb⟩]
      have G := cq_room1 ha hf C hl z2 h4 (fun _ => by rw [if_pos hb] at Sh; exact Sh)
      refine cq_append (n := n) ha hf C w G (fun v M hq => ?_)
      cases hq
      exact Or.inl ⟨rfl, 0, Or.inl rfl, rfl, by rw [eapp], by rw [eapp]; exact kz_mono (kz_up h) (by omega)⟩
    · -- a new block
      have eapp : kr_app R a f w = (some (.inl 1), kr_ch (kr_a2 R a f) a f n w) := by unfold kr_app; rw [hn, if_neg (fun q => hb q.2)]
      have hn24 : n < 24 := by omega
      rw [if_neg hb] at Sh
      have W := ck_bindApp h (by omega) ha (b := 1) (by decide) (by rw [ec]; omega)
      rw [← hK] at W
      have G := cq_room2 (Q := fun q => ∃ r D, r < 24 ∧ D 7 r = -1 ∧ ki_Z N (B + 5) D (kr_cm R 1) ∧ D (20 + 7 * a) = C (20 + 7 * a) ∧ q = (some (.inl 1), kb_up (kx_bn D 1 r (nI a)) (21 + 7 * a) (6 * f + n / 4) (nI r))) ha hf C hl hn24 h4 Sh W (fun v M hq => by
        obtain ⟨r, D, r1, r2, d1, d2, e⟩ := hq
        rw [hK] at e
        cases e
        exact ⟨r, by omega, rfl, r, D, by omega, r2, d1, d2 _ (by omega) (by omega) (by omega) (by omega) (by omega) (by omega) (by omega) (by omega) (by omega), rfl⟩)
      refine cq_append (n := n) ha hf C w G (fun v M hq => ?_)
      obtain ⟨r, D, r1, r2, d1, d2, e⟩ := hq
      cases e
      have s35 : (kr_cm R 1) 35 = R 35 := kr_cm_ne R 1 (by decide) (by decide) (by decide) (by decide)
      have hsz : kr_sz (kr_cm R 1) (6 * a + f) = n := by unfold kr_sz; rw [s35]; exact hn
      have Z := kz_blk d1 ha hf hsz hn24 h4 (by rw [kr_b_eq s35]; omega) r1 r2
      have ea2 : kb_up (kr_cm R 1) 35 (6 * a + f) (nI (n + 1)) = kr_a2 R a f := by unfold kr_a2 kr_a1; rw [hn, if_pos h4]
      rw [ea2] at Z
      have hi : n < kr_sz (kb_up (kr_a2 R a f) 34 (144 * a + 24 * f + n) 0) (6 * a + f) := by
        unfold kr_sz
        rw [kb_up_ne _ _ _ (by decide), ← ea2, kb_up_at, pk_us, nI_clamp (by omega)]
        omega
      refine Or.inr ⟨rfl, ?_, _, op_open Z hN (by omega) ha hf hi, fun v2 M2 hq2 => ?_⟩
      · unfold kx_bn
        rw [kb_up_ne _ _ _ (by omega), kb_ro_ne _ _ (by omega), kb_up_ne _ _ _ (by omega), d2]
        exact hl
      · obtain ⟨s, y1, y2, y3⟩ := ko_change ha hf hi hq2 w
        rw [kc_ch] at y3
        refine ⟨s, y1, y2, kb_E_imp y3 (fun q hq => ⟨hq.1, 1, Or.inr rfl, hq.1, by rw [eapp], by rw [eapp]; exact hq.2⟩)⟩
  · have hn24 : n < 24 := by omega
    have eapp : kr_app R a f w = (some (.inl 1), kr_ch (kr_a2 R a f) a f n w) := by unfold kr_app; rw [hn, if_neg (fun q => h4 q.1)]
    have ea2 : kr_a2 R a f = kb_up R 35 (6 * a + f) (nI (n + 1)) := by unfold kr_a2 kr_a1; rw [hn, if_neg h4]
    have G := cq_room0 ha hf C hl hn24 h4
    refine cq_append (n := n) ha hf C w G (fun v M hq => ?_)
    cases hq
    refine Or.inr ⟨rfl, hl, ?_⟩
    cases hfi : kr_fi R a (nI (6 * f + n / 4)) (kr_fr R a) with
    | some j =>
      obtain ⟨Q2, o1, o2⟩ := op_appendHit h hN ha hf hn hn24 h4 hfi w
      refine ⟨Q2, o1, fun v2 M2 hq2 => ?_⟩
      obtain ⟨s, y1, y2, y3⟩ := o2 v2 M2 hq2
      exact ⟨s, y1, y2, kb_E_imp y3 (fun q hq => ⟨hq.1, 1, Or.inr rfl, hq.1, by rw [eapp], by rw [eapp, ea2]; exact hZ2 _ _ hq.2⟩)⟩
    | none =>
      have hno := kr_fi_no hfi
      obtain ⟨b, b1, b2, b3⟩ := hA.2.2.1.1 f (n / 4) hf (by omega) (by omega)
      have nocache : ∀ s, s < 3 → C (23 + 7 * a + s) 1 ≠ nI (6 * f + n / 4) := by
        intro s hs hp
        by_cases hm : s ∈ L
        · obtain ⟨j, hj⟩ := List.getElem?_of_mem hm
          have := (List.getElem?_eq_some_iff.mp hj).1
          have hlen := hL.1
          exact hno j (by omega) ((hL.2.2.2.2.1 j s hj).1.symm.trans hp)
        · rw [(hL.2.2.2.1 s hs hm).2.1] at hp
          exact nI_m1 (a := 6 * f + n / 4) (by omega) hp.symm
      obtain ⟨Z, -⟩ := kz_len (x := C 8 (4 * b + n % 4)) h ha hL hf hn hn24 h4 (fun r hr hc => by
        have e : b = r := (nI_eq (by omega) (by omega)).mp (b2.symm.trans hc)
        subst e
        exact ⟨fun s r0 hs hp _ _ => absurd hp (nocache s hs), fun _ => rfl⟩)
      rw [← ea2] at Z
      have hi : n < kr_sz (kb_up (kr_a2 R a f) 34 (144 * a + 24 * f + n) (C 8 (4 * b + n % 4))) (6 * a + f) := by
        unfold kr_sz
        rw [kb_up_ne _ _ _ (by decide), ea2, kb_up_at, pk_us, nI_clamp (by omega)]
        omega
      refine ⟨_, op_open Z hN (by omega) ha hf hi, fun v2 M2 hq2 => ?_⟩
      obtain ⟨s, y1, y2, y3⟩ := ko_change ha hf hi hq2 w
      rw [kc_ch] at y3
      exact ⟨s, y1, y2, kb_E_imp y3 (fun q hq => ⟨hq.1, 1, Or.inr rfl, hq.1, by rw [eapp], by rw [eapp]; exact hZ2 _ _ hq.2⟩)⟩
end
section
/-! append and sync of the class -/
set_option maxRecDepth 100000 in
theorem op_appendWord_no {a : Nat} (ha : a < 2) {v : Int32} (hv : ¬ (0 ≤ v ∧ v ≤ 5)) (C : kb_M) (w : Int32) : kb_E (kb_en kz_App_appendWord [.inr (some (19 + 7 * a)), .inl v, .inl w] C) (fun q => q = (some (.inl 0), C)) := by
  have F := cq_isFile C v
  rw [if_neg hv] at F
  have ha01 : a = 0 ∨ a = 1 := by omega
  rcases ha01 with rfl | rfl
  all_goals
    refine kb_go 60 [] ?_
    refine kb_E_to F ?_
    exact And.intro (fun _ => And.intro rfl rfl) (fun h => absurd h (by decide))
set_option maxRecDepth 100000 in
theorem ow_append {N : Nat} {C R : kb_M} (h : ki_V N C R) (hN : N ≤ 600) (u v w : Int32) : kw_P N kz_BK_append kz_Model_append [.inl u, .inl v, .inl w] C R := by
  by_cases hu : 0 ≤ u ∧ u ≤ 1
  · obtain ⟨a, ha, rfl⟩ := kr_in u (n := 1) (by decide) hu
    have ha : a < 2 := by omega
    have O := op_appOf C ha
    by_cases hv : 0 ≤ v ∧ v ≤ 5
    · obtain ⟨f, hf, rfl⟩ := kr_in v (n := 5) (by decide) hv
      have hf : f < 6 := by omega
      have W := op_appendWord (kz_V.mp h) hN (by omega) ha hf w
      have X := cr_append h.1.1 ha hf w
      obtain ⟨n, r, hr, y, y1, y2, y3, y4⟩ := kb_E_get W
      refine ⟨y, (kr_app R a f w).2, ?_, ?_⟩
      · rw [show kr_app R a f w = (some (.inl y), (kr_app R a f w).2) from by rw [← y3]] at X
        exact X
      · have ha01 : a = 0 ∨ a = 1 := by omega
        rcases ha01 with rfl | rfl
        all_goals
          refine kb_go 60 [] ?_
          refine kb_E_to O ?_
          refine kb_E_then W (fun v M hq => ?_)
          obtain ⟨y', t1, t2, t3, t4⟩ := hq
          dsimp only at t2 t4
          subst t2
          have e : y' = y := Sum.inl.inj (Option.some.inj (t3.symm.trans y3))
          subst e
          rcases t1 with rfl | rfl
          · exact And.intro (fun _ => And.intro rfl ⟨rfl, kz_V.mpr (kz_mono t4 (by omega))⟩) (fun h => absurd h (by decide))
          · exact And.intro (fun h => absurd h (by decide)) (fun _ => And.intro rfl ⟨rfl, kz_V.mpr (kz_mono t4 (by omega))⟩)
    · have W := op_appendWord_no ha hv C w
      refine ⟨0, R, cr_append_no (fun q => hv q.2) w, ?_⟩
      have ha01 : a = 0 ∨ a = 1 := by omega
      rcases ha01 with rfl | rfl
      all_goals
        refine kb_go 60 [] ?_
        refine kb_E_to O ?_
        refine kb_E_to W ?_
        exact And.intro (fun _ => And.intro rfl ⟨rfl, kv_up h⟩) (fun h => absurd h (by decide))
  · refine ⟨0, R, cr_append_no (fun q => hu q.1) w, ?_⟩
    refine kb_go 60 [] ?_
    refine kb_E_to (op_appOf_no C hu) ?_
    exact And.intro rfl ⟨rfl, kv_up h⟩
end
section
/-! sync -/
theorem kr_so_comm (R : kb_M) {i j : Nat} (h : i ≠ j) : kr_so (kr_so R i) j = kr_so (kr_so R j) i := by
  have e33 : ∀ (S : kb_M) (k : Nat), (kr_so S k) 33 = upd (S 33) 1 (if S 37 k = 0 then S 33 1 else S 33 1 + 1) := fun S k => by unfold kr_so; rw [kb_up_ne _ _ _ (by decide), kb_up_at]
  have e37 : ∀ (S : kb_M) (k : Nat), (kr_so S k) 37 = upd (S 37) k 0 := fun S k => by unfold kr_so; rw [kb_up_at, kb_up_ne _ _ _ (by decide)]
  funext k q
  by_cases h33 : k = 33
  · subst h33
    rw [e33, e33, e33, e33, e37, e37, pk_un (fun e => h e.symm), pk_un h, pk_us, pk_us]
    by_cases hq : q = 1
    · rw [hq, pk_us, pk_us]
      by_cases hi : R 37 i = 0
      · rw [if_pos hi, if_pos hi]
      · rw [if_neg hi, if_neg hi]
        by_cases hj : R 37 j = 0
        · rw [if_pos hj, if_pos hj]
        · rw [if_neg hj, if_neg hj]
    · rw [pk_un hq, pk_un hq, pk_un hq, pk_un hq]
  · by_cases h37 : k = 37
    · subst h37
      rw [e37, e37, e37, e37]
      by_cases hqi : q = i
      · subst hqi
        rw [pk_un h, pk_us, pk_us]
      · by_cases hqj : q = j
        · subst hqj
          rw [pk_us, pk_un hqi, pk_us]
        · rw [pk_un hqj, pk_un hqi, pk_un hqi, pk_un hqj]
    · rw [kr_so_ne _ _ h33 h37, kr_so_ne _ _ h33 h37, kr_so_ne _ _ h33 h37, kr_so_ne _ _ h33 h37]
/-- what storing slot s does to the reference -/
def kg_s (R : kb_M) (a : Nat) (L : List Nat) (s : Nat) : kb_M := if L[0]? = some s then kr_so R (3 * a + 0) else if L[1]? = some s then kr_so R (3 * a + 1) else if L[2]? = some s then kr_so R (3 * a + 2) else R
theorem kz_sl {N B : Nat} {C R : kb_M} (h : ki_Z N B C R) {a : Nat} (ha : a < 2) {L : List Nat} (hL : ki_B C R a L) {s : Nat} (hs : s < 3) : kb_E (kb_en kz_App_storeIfChanged [.inr (some (19 + 7 * a)), .inr (some (23 + 7 * a + s))] C) (fun q => q.1 = none ∧ ki_Z N B q.2 (kg_s R a L s) ∧ ki_B q.2 (kg_s R a L s) a L ∧ q.2 (19 + 7 * (1 - a)) = C (19 + 7 * (1 - a))) := by
  have go : ∀ j, L[j]? = some s → kb_E (kb_en kz_App_storeIfChanged [.inr (some (19 + 7 * a)), .inr (some (23 + 7 * a + s))] C) (fun q => q.1 = none ∧ ki_Z N B q.2 (kr_so R (3 * a + j)) ∧ ki_B q.2 (kr_so R (3 * a + j)) a L ∧ q.2 (19 + 7 * (1 - a)) = C (19 + 7 * (1 - a))) := by
    intro j hj
    refine kb_E_imp (kz_store h ha hL hj) (fun q hq => ?_)
    obtain ⟨q1, q2, q3, q4, -⟩ := hq
    exact ⟨q1, q2, q3, q4 _ (by omega) (by omega) (by omega)⟩
  unfold kg_s
  by_cases h0 : L[0]? = some s
  · rw [if_pos h0]; exact go 0 h0
  · rw [if_neg h0]
    by_cases h1 : L[1]? = some s
    · rw [if_pos h1]; exact go 1 h1
    · rw [if_neg h1]
      by_cases h2 : L[2]? = some s
      · rw [if_pos h2]; exact go 2 h2
      · rw [if_neg h2]
        have hm : s ∉ L := by
          intro hm
          obtain ⟨j, hj⟩ := List.getElem?_of_mem hm
          have h3 := (List.getElem?_eq_some_iff.mp hj).1
          have hle := (h.1.1.2.2.1 a ha).2
          have hlen := hL.1
          have : j = 0 ∨ j = 1 ∨ j = 2 := by omega
          rcases this with rfl | rfl | rfl
          · exact h0 hj
          · exact h1 hj
          · exact h2 hj
        refine kb_E_to (cq_store_no (kq_in ha) (by unfold kq_S; omega) C (hL.2.2.2.1 s hs hm).2.2) ⟨rfl, h, hL, rfl⟩
theorem kg_all {R : kb_M} {a : Nat} {L : List Nat} (hnd : L.Nodup) (hlt : ∀ s, s ∈ L → s < 3) (hlen : L.length ≤ 3) : kg_s (kg_s (kg_s R a L 0) a L 1) a L 2 = kr_sy R a L.length := by
  have c01 := fun S => kr_so_comm S (i := 3 * a + 0) (j := 3 * a + 1) (by omega)
  have c02 := fun S => kr_so_comm S (i := 3 * a + 0) (j := 3 * a + 2) (by omega)
  have c12 := fun S => kr_so_comm S (i := 3 * a + 1) (j := 3 * a + 2) (by omega)
  match L, hnd, hlt, hlen with
  | [], _, _, _ => rfl
  | [x], _, hlt, _ =>
    have hx := hlt x (by simp)
    have : x = 0 ∨ x = 1 ∨ x = 2 := by omega
    rcases this with rfl | rfl | rfl <;> rfl
  | [x, y], hnd, hlt, _ =>
    have hx := hlt x (by simp)
    have hy := hlt y (by simp)
    have hxy : x ≠ y := by
      intro e
      rw [e] at hnd
      simp at hnd
    have e1 : x = 0 ∨ x = 1 ∨ x = 2 := by omega
    have e2 : y = 0 ∨ y = 1 ∨ y = 2 := by omega
    rcases e1 with rfl | rfl | rfl <;> rcases e2 with rfl | rfl | rfl
    all_goals first
      | exact absurd rfl hxy
      | rfl
      | exact (c01 R).symm
  | [x, y, z], hnd, hlt, _ =>
    have hx := hlt x (by simp)
    have hy := hlt y (by simp)
    have hz := hlt z (by simp)
    have hxy : x ≠ y := by
      intro e
      rw [e] at hnd
      simp at hnd
    have hxz : x ≠ z := by
      intro e
      rw [e] at hnd
      simp at hnd
    have hyz : y ≠ z := by
      intro e
      rw [e] at hnd
      simp at hnd
    have e1 : x = 0 ∨ x = 1 ∨ x = 2 := by omega
    have e2 : y = 0 ∨ y = 1 ∨ y = 2 := by omega
    have e3 : z = 0 ∨ z = 1 ∨ z = 2 := by omega
    rcases e1 with rfl | rfl | rfl <;> rcases e2 with rfl | rfl | rfl <;> rcases e3 with rfl | rfl | rfl
    all_goals first
      | exact absurd rfl hxy
      | exact absurd rfl hxz
      | exact absurd rfl hyz
      | rfl
      | (show kr_so (kr_so (kr_so R (3 * a + 0)) (3 * a + 2)) (3 * a + 1) = kr_so (kr_so (kr_so R (3 * a + 0)) (3 * a + 1)) (3 * a + 2); rw [c12])
      | (show kr_so (kr_so (kr_so R (3 * a + 1)) (3 * a + 0)) (3 * a + 2) = kr_so (kr_so (kr_so R (3 * a + 0)) (3 * a + 1)) (3 * a + 2); rw [c01])
      | (show kr_so (kr_so (kr_so R (3 * a + 1)) (3 * a + 2)) (3 * a + 0) = kr_so (kr_so (kr_so R (3 * a + 0)) (3 * a + 1)) (3 * a + 2); rw [← c02, ← c01])
      | (show kr_so (kr_so (kr_so R (3 * a + 2)) (3 * a + 0)) (3 * a + 1) = kr_so (kr_so (kr_so R (3 * a + 0)) (3 * a + 1)) (3 * a + 2); rw [← c02, c12])
      | (show kr_so (kr_so (kr_so R (3 * a + 2)) (3 * a + 1)) (3 * a + 0) = kr_so (kr_so (kr_so R (3 * a + 0)) (3 * a + 1)) (3 * a + 2); rw [← c01, ← c02, c12])
end
section
/-! sync of the class -/
theorem kj_sub (x y z : Int32) : x + z - (y + z) = x - y := by
  apply Int32.toBitVec_inj.mp
  simp only [Int32.toBitVec_sub, Int32.toBitVec_add]
  bv_omega
set_option maxRecDepth 100000 in
theorem op_storeAll {N B : Nat} {C R : kb_M} (h : ki_Z N B C R) {a : Nat} (ha : a < 2) : kb_E (kb_en kz_App_storeAllChanged [.inr (some (19 + 7 * a))] C) (fun q => q.1 = some (.inl ((kr_sy R a (kr_fr R a)) 33 1 - R 33 1)) ∧ ki_Z N B q.2 (kr_sy R a (kr_fr R a))) := by
  obtain ⟨L, hL⟩ := (h.1.2.2.2.2.2 a ha).2.2.2.1
  have hle := (h.1.1.2.2.1 a ha).2
  have hlen := hL.1
  have all := kg_all (R := R) (a := a) hL.2.1 hL.2.2.1 (by omega)
  rw [hlen] at all
  have W0 := kz_sl h ha hL (s := 0) (by decide)
  have W1 := fun M (z : ki_Z N B M (kg_s R a L 0)) (b : ki_B M (kg_s R a L 0) a L) => kz_sl z ha b (s := 1) (by decide)
  have W2 := fun M (z : ki_Z N B M (kg_s (kg_s R a L 0) a L 1)) (b : ki_B M (kg_s (kg_s R a L 0) a L 1) a L) => kz_sl z ha b (s := 2) (by decide)
  have fin : ∀ M, ki_Z N B M (kg_s (kg_s (kg_s R a L 0) a L 1) a L 2) → M (19 + 7 * (1 - a)) = C (19 + 7 * (1 - a)) → M (19 + 7 * a) 1 - C (19 + 7 * a) 1 = (kr_sy R a (kr_fr R a)) 33 1 - R 33 1 ∧ ki_Z N B M (kr_sy R a (kr_fr R a)) := by
    intro M hz hm
    rw [all] at hz
    refine ⟨?_, hz⟩
    obtain ⟨-, x1⟩ := h.2.2.2.2
    obtain ⟨-, y1⟩ := hz.2.2.2.2
    rw [← x1, ← y1]
    have ha01 : a = 0 ∨ a = 1 := by omega
    rcases ha01 with rfl | rfl
    · have hm : M 26 = C 26 := hm
      show M 19 1 - C 19 1 = M 19 1 + M 26 1 - (C 19 1 + C 26 1)
      rw [hm]
      exact (kj_sub _ _ _).symm
    · have hm : M 19 = C 19 := hm
      show M 26 1 - C 26 1 = M 19 1 + M 26 1 - (C 19 1 + C 26 1)
      rw [hm, Int32.add_comm (C 19 1), Int32.add_comm (C 19 1)]
      exact (kj_sub _ _ _).symm
  have ha01 : a = 0 ∨ a = 1 := by omega
  rcases ha01 with rfl | rfl
  all_goals
    refine kb_go 100 [] ?_
    refine And.intro (fun h => absurd h (by decide)) (fun _ => And.intro rfl ?_)
    refine kb_E_then W0 (fun v M hq => ?_)
    obtain ⟨q1, q2, q3, q4⟩ := hq
    dsimp only at q1 q2 q3 q4
    subst q1
    refine And.intro (fun h => absurd h (by decide)) (fun _ => And.intro rfl ?_)
    refine kb_E_then (W1 M q2 q3) (fun v1 M1 hq1 => ?_)
    obtain ⟨t1, t2, t3, t4⟩ := hq1
    dsimp only at t1 t2 t3 t4
    subst t1
    refine And.intro (fun h => absurd h (by decide)) (fun _ => And.intro rfl ?_)
    refine kb_E_then (W2 M1 t2 t3) (fun v2 M2 hq2 => ?_)
    obtain ⟨y1, y2, y3, y4⟩ := hq2
    dsimp only at y1 y2 y3 y4
    subst y1
    obtain ⟨f1, f2⟩ := fin M2 y2 (y4.trans (t4.trans q4))
    exact And.intro (fun _ => And.intro rfl ⟨congrArg (fun x => some (Sum.inl x)) f1, f2⟩) (fun h => absurd h (by decide))
set_option maxRecDepth 100000 in
theorem ow_sync {N : Nat} {C R : kb_M} (h : ki_V N C R) (u : Int32) : kw_P N kz_BK_sync kz_Model_sync [.inl u] C R := by
  by_cases hu : 0 ≤ u ∧ u ≤ 1
  · obtain ⟨a, ha, rfl⟩ := kr_in u (n := 1) (by decide) hu
    have ha : a < 2 := by omega
    have O := op_appOf C ha
    have W := op_storeAll (kz_V.mp h) ha
    refine ⟨_, _, cr_sync h.1.1 ha, ?_⟩
    have ha01 : a = 0 ∨ a = 1 := by omega
    rcases ha01 with rfl | rfl
    all_goals
      refine kb_go 60 [] ?_
      refine kb_E_to O ?_
      refine kb_E_then W (fun v M hq => ?_)
      obtain ⟨t1, t2⟩ := hq
      dsimp only at t1 t2
      subst t1
      exact And.intro rfl ⟨rfl, kv_z (kz_up t2)⟩
  · refine ⟨-1, R, cr_sync_no hu, ?_⟩
    refine kb_go 60 [] ?_
    refine kb_E_to (op_appOf_no C hu) ?_
    exact And.intro rfl ⟨rfl, kv_up h⟩
end
section
/-! a part is dropped, changed or not: the reference's words of it become the block's -/
set_option maxHeartbeats 1000000 in
theorem ka_drop {N : Nat} {C R S : kb_M} (h : ki_J N C R) {a : Nat} (ha : a < 2) {L : List Nat} (hL : ki_B C R a L) {j s r f p w : Nat} (hj : L[j]? = some s) (hr : r < 12) (hfr : C (23 + 7 * a + s) 0 = nI r) (hf : f < 6) (hp : p < 6) (hpt : C (23 + 7 * a + s) 1 = nI (6 * f + p)) (hw : w < 24) (hb : C (21 + 7 * a) (6 * f + p) = nI w) (tn : ∀ k, k ≠ 34 → S k = (kr_rm R a j) k) (t34 : ∀ i, S 34 i = if 144 * a + 24 * f + 4 * p ≤ i ∧ i < 144 * a + 24 * f + 4 * p + 4 then C 8 (4 * w + (i - (144 * a + 24 * f + 4 * p))) else R 34 i) : ki_J N (ka_gf C (23 + 7 * a + s) r) S ∧ ki_B (ka_gf C (23 + 7 * a + s) r) S a (L.eraseIdx j) := by
  have hA := h.2.2.2.2.2 a ha
  have hR := h.1
  obtain ⟨hs3, hj3, r', -, -, -, g1, g2, g3, -⟩ := ka_slot hA hR ha hL hj
  obtain ⟨h1, h2, ⟨p1, p2, p3⟩, -, hwd⟩ := hA
  have hL0 := hL
  obtain ⟨l1, l2, l3, l4, l5, l6⟩ := hL
  have err : r = r' := (nI_eq (by omega) (by omega)).mp (hfr.symm.trans g2)
  subst err
  have hjl : j < kr_fr R a := by rw [← l1]; exact (List.getElem?_eq_some_iff.mp hj).1
  have hfl := (hR.2.2.1 a ha).2
  obtain ⟨hS, hSf⟩ := kr_rm_ok hR ha hjl
  obtain ⟨sn, s38, s36, s37⟩ := kr_rm_rows R a j
  have hS := kr_ok_eq (S := S) hS (tn 35 (by decide)) (tn 37 (by decide)) (tn 38 (by decide)) (tn 39 (by decide)) (tn 41 (by decide))
  have hSf : kr_fr S a = kr_fr R a - 1 := by
    unfold kr_fr at hSf ⊢
    rw [tn 38 (by decide)]
    exact hSf
  have sn : ∀ k, k ≠ 34 → k ≠ 36 → k ≠ 37 → k ≠ 38 → S k = R k := fun k k0 k1 k2 k3 => (tn k k0).trans (sn k k1 k2 k3)
  rw [← tn 38 (by decide)] at s38
  rw [← tn 36 (by decide)] at s36
  rw [← tn 37 (by decide)] at s37
  generalize hD : ka_gf C (23 + 7 * a + s) r = D
  have d4 : D 4 = upd (C 4) r (-1) := by rw [← hD]; unfold ka_gf; rw [kb_up_ne _ _ _ (by omega), kb_up_ne _ _ _ (by omega), kb_up_ne _ _ _ (by omega), kb_up_at]
  have dz : D (23 + 7 * a + s) = upd (upd (upd (C (23 + 7 * a + s)) 0 (-1)) 1 (-1)) 3 0 := by rw [← hD]; unfold ka_gf; rw [kb_up_at, kb_up_at, kb_up_at, kb_up_ne _ _ _ (by omega)]
  have dn : ∀ k, k ≠ 4 → k ≠ 23 + 7 * a + s → D k = C k := fun k q1 q2 => by rw [← hD]; unfold ka_gf; rw [kb_up_ne _ _ _ q2, kb_up_ne _ _ _ q2, kb_up_ne _ _ _ q2, kb_up_ne _ _ _ q1]
  have dzo : ∀ y, y ≠ s → D (23 + 7 * a + y) = C (23 + 7 * a + y) := fun y hy => dn _ (by omega) (by omega)
  have pl : ∀ i y, (L.eraseIdx j)[i]? = some y → ka_pl j i < kr_fr R a ∧ S 36 (3 * a + i) = R 36 (3 * a + ka_pl j i) ∧ S 37 (3 * a + i) = R 37 (3 * a + ka_pl j i) ∧ y ≠ s ∧ y < 3 := by
    intro i y hi
    have h1 := ka_er hi
    have h2 : ka_pl j i < kr_fr R a := by rw [← l1]; exact (List.getElem?_eq_some_iff.mp h1).1
    have hne := ((ka_er_mem l2 hj).mp (List.mem_of_getElem? hi)).2
    refine ⟨h2, ?_, ?_, hne, l3 y (List.mem_of_getElem? h1)⟩
    · rw [s36]
      unfold ka_pl at h2 ⊢
      by_cases hij : i < j
      · rw [if_pos hij, if_neg (by omega)]
      · rw [if_neg hij] at h2 ⊢
        rw [if_pos (by omega)]
        congr 1
    · rw [s37]
      unfold ka_pl at h2 ⊢
      by_cases hij : i < j
      · rw [if_pos hij, if_neg (by omega)]
      · rw [if_neg hij] at h2 ⊢
        rw [if_pos (by omega)]
        congr 1
  have hB : ki_B D S a (L.eraseIdx j) := by
    refine ⟨?_, l2.eraseIdx j, fun y hy => l3 y ((ka_er_mem l2 hj).mp hy).1, fun y hy hn => ?_, fun i y hi => ?_, fun i k y z hik hi hk => ?_⟩
    · rw [List.length_eraseIdx_of_lt (by rw [l1]; exact hjl), l1, hSf]
    · by_cases hys : y = s
      · rw [hys, dz]
        exact ⟨by rw [pk_un (by decide), pk_un (by decide), pk_us], by rw [pk_un (by decide), pk_us], pk_us⟩
      · rw [dzo y hys]
        exact l4 y hy (fun q => hn ((ka_er_mem l2 hj).mpr ⟨q, hys⟩))
    · obtain ⟨q1, q2, q3, q4, q5⟩ := pl i y hi
      obtain ⟨m1, m2, ⟨r1, m3, m4, m5⟩, ⟨f1, p1', m6, m7, m8, m9⟩, ⟨u, v, m10, m11, m12⟩⟩ := l5 _ y (ka_er hi)
      rw [dzo y q4, q2, q3, dn (19 + 7 * a) (by omega) (by omega)]
      refine ⟨m1, m2, ⟨r1, m3, m4, ?_⟩, ⟨f1, p1', m6, m7, by unfold kr_sz; rw [sn 35 (by decide) (by decide) (by decide) (by decide)]; exact m8, m9⟩, ⟨u, v, m10, m11, m12⟩⟩
      have hrr : r1 ≠ r := by
        intro q
        have hpj : ka_pl j i ≠ j := by unfold ka_pl; split <;> omega
        by_cases hlt : ka_pl j i < j
        · exact (l6 _ _ y s hlt (ka_er hi) hj).2.2 (by rw [m4, hfr, q])
        · exact (l6 _ _ s y (by omega) hj (ka_er hi)).2.2 (by rw [m4, hfr, q])
      rw [d4, pk_un hrr]
      exact m5
    · obtain ⟨q1, q2, q3, q4, q5⟩ := pl i y hi
      obtain ⟨t1, t2, t3, t4, t5⟩ := pl k z hk
      rw [dzo y q4, dzo z t4, q2, t2]
      exact l6 _ _ y z (by unfold ka_pl; split <;> split <;> omega) (ka_er hi) (ka_er hk)
  refine ⟨?_, hB⟩
  refine kj_app h ha hS (sn 39 (by decide) (by decide) (by decide) (by decide)) (sn 41 (by decide) (by decide) (by decide) (by decide)) (sn 42 (by decide) (by decide) (by decide) (by decide)) (sn 43 (by decide) (by decide) (by decide) (by decide)) (sn 44 (by decide) (by decide) (by decide) (by decide)) (fun b hb' q hq => ?_) (fun b hb' e he => ?_) (fun k q1 q2 => dn k (by omega) (by omega)) (fun o ho hoa => ⟨fun k q1 q2 => dn k (by omega) (by omega), fun i _ => by rw [t34, if_neg (by omega)], fun f _ => by rw [sn 35 (by decide) (by decide) (by decide) (by decide)], fun i hi => ⟨by rw [s36, if_neg (by omega)], by rw [s37, if_neg (by omega)]⟩, by rw [s38, pk_un hoa]⟩) (fun e he hea => ?_) ?_
  · by_cases hb0 : b = 0
    · subst hb0
      show D 4 q = -1 ∨ ∃ e, e < 4 ∧ D 4 q = nI e
      rw [d4]
      unfold upd
      by_cases hqr : q = r
      · rw [if_pos hqr]; exact Or.inl rfl
      · rw [if_neg hqr]; exact h.2.2.1 0 hb' q hq
    · rw [dn _ (by omega) (by omega)]
      exact h.2.2.1 b hb' q hq
  · have hold := h.2.2.2.1 b hb' e he
    have s35 := sn 35 (by decide) (by decide) (by decide) (by decide)
    have hcnt : kr_c S e b + (if b = 0 ∧ e = a then 1 else 0) = kr_c R e b := by
      rcases kr_env2 he with he2 | ⟨d, hd, rfl⟩
      · unfold kr_c
        rw [if_pos he2, if_pos he2, kr_b_eq s35]
        by_cases hb0 : b = 0
        · rw [if_pos hb0, if_pos hb0]
          unfold kr_fr
          rw [s38]
          unfold upd
          by_cases hea : e = a
          · rw [if_pos hea, if_pos ⟨hb0, hea⟩, nI_clamp (by omega), hea]
            have : (R 38 a).toNatClampNeg = kr_fr R a := rfl
            omega
          · rw [if_neg hea, if_neg (fun q => hea q.2)]
            omega
        · rw [if_neg hb0, if_neg hb0, if_neg (fun q => hb0 q.1)]
          omega
      · rw [kr_c_g hd, kr_c_g hd, if_neg (by omega)]
        have q := kr_l_eq (R := R) (S := S) (g := d) (b := nI b) (kr_bd R d) (fun u hu => ⟨by rw [sn 41 (by decide) (by decide) (by decide) (by decide)], by rw [sn 42 (by decide) (by decide) (by decide) (by decide)]⟩)
        unfold kr_bd at q ⊢
        rw [sn 39 (by decide) (by decide) (by decide) (by decide), q]
        rfl
    by_cases hb0 : b = 0
    · subst hb0
      show kp_c (D 4) (nI e) (12 + 12 * 0) = kr_c S e 0
      have h1 := kp_c_upd (f := C 4) (r := r) (x := -1) (e := nI e) (12 + 12 * 0) (by omega)
      rw [g3, if_neg (show ¬ (-1 : Int32) = nI e from fun q => nI_m1 (a := e) (by omega) q.symm)] at h1
      have hold : kp_c (C 4) (nI e) (12 + 12 * 0) = kr_c R e 0 := hold
      rw [d4]
      by_cases hea : e = a
      · rw [if_pos (by rw [hea])] at h1
        rw [if_pos ⟨rfl, hea⟩] at hcnt
        omega
      · rw [if_neg (nI_ne (by omega) (by omega) (fun q => hea q.symm))] at h1
        rw [if_neg (fun q => hea q.2)] at hcnt
        omega
    · rw [dn _ (by omega) (by omega), hold, ← hcnt, if_neg (fun q => hb0 q.1)]
      rfl
  · intro b hb' q hq hce
    refine ⟨?_, fun k hk => by rw [dn (5 + 3 * b) (by omega) (by omega)]⟩
    by_cases hb0 : b = 0
    · subst hb0
      have hce : C 4 q = nI e := hce
      have hqr : q ≠ r := fun z => by
        rw [z, g3, nI_eq (by omega) (by omega)] at hce
        exact hea hce.symm
      show D 4 q = nI e
      rw [d4, pk_un hqr]
      exact hce
    · rw [dn _ (by omega) (by omega)]
      exact hce
  · have s35 := sn 35 (by decide) (by decide) (by decide) (by decide)
    refine ⟨⟨by rw [dn (20 + 7 * a) (by omega) (by omega), s35]; exact h1.1, by rw [kr_b_eq s35]; exact h1.2⟩, by rw [dn (19 + 7 * a) (by omega) (by omega)]; exact h2, ⟨?_, ?_, ?_⟩, ⟨_, hB⟩, ?_⟩
    · rw [dn (21 + 7 * a) (by omega) (by omega), dn 7 (by omega) (by omega)]
      unfold kr_sz
      rw [s35]
      exact p1
    · rw [dn (21 + 7 * a) (by omega) (by omega)]
      unfold kr_sz
      rw [s35]
      exact p2
    · rw [dn (21 + 7 * a) (by omega) (by omega)]
      exact p3
    · intro f0 i0 r0 hf0 hi0 hr0 hr24
      unfold kr_sz at hi0
      rw [s35] at hi0
      have h24 := (hR.2.1 (6 * a + f0) (by omega)).2
      have hi24 : i0 < kr_sz R (6 * a + f0) := hi0
      rw [dn (21 + 7 * a) (by omega) (by omega)] at hr0
      rw [dn 5 (by omega) (by omega), dn 8 (by omega) (by omega)]
      obtain ⟨w1, w2⟩ := hwd f0 i0 r0 hf0 hi0 hr0 hr24
      refine ⟨fun y r1 hy hyp hyf hr1 => ?_, fun hno => ?_⟩
      · have hys : y ≠ s := fun q => by
          rw [q, dz, pk_un (by decide), pk_us] at hyp
          exact nI_m1 (by omega) hyp.symm
        rw [dzo y hys] at hyp hyf ⊢
        have hq : 6 * f0 + i0 / 4 ≠ 6 * f + p := fun q => hys (ka_uniq hL0 hs3 hy (by omega) hpt (by rw [hyp, q]))
        rw [t34, if_neg (by omega)]
        exact w1 y r1 hy hyp hyf hr1
      · by_cases hpart : 6 * f0 + i0 / 4 = 6 * f + p
        · have e1 : f0 = f := by omega
          subst e1
          have er : r0 = w := (nI_eq (by omega) (by omega)).mp (hr0.symm.trans (by rw [hpart]; exact hb))
          rw [t34, if_pos (by omega), er]
          congr 1
          omega
        · rw [t34, if_neg (by omega)]
          refine w2 (fun y hy => ?_)
          by_cases hys : y = s
          · rw [hys, hpt]
            exact nI_ne (by omega) (by omega) (fun q => hpart q.symm)
          · rw [← dzo y hys]
            exact hno y hy
end
section
/-! erase: a part is dropped, the file is emptied -/
theorem kz_drop {N B : Nat} {C R S : kb_M} (h : ki_Z N B C R) {a : Nat} (ha : a < 2) {L : List Nat} (hL : ki_B C R a L) {j s r f p w : Nat} (hj : L[j]? = some s) (hr : r < 12) (hfr : C (23 + 7 * a + s) 0 = nI r) (hf : f < 6) (hp : p < 6) (hpt : C (23 + 7 * a + s) 1 = nI (6 * f + p)) (hw : w < 24) (hb : C (21 + 7 * a) (6 * f + p) = nI w) (tn : ∀ k, k ≠ 34 → S k = (kr_rm R a j) k) (t34 : ∀ i, S 34 i = if 144 * a + 24 * f + 4 * p ≤ i ∧ i < 144 * a + 24 * f + 4 * p + 4 then C 8 (4 * w + (i - (144 * a + 24 * f + 4 * p))) else R 34 i) : ki_Z N B (ka_gf C (23 + 7 * a + s) r) S ∧ ki_B (ka_gf C (23 + 7 * a + s) r) S a (L.eraseIdx j) := by
  obtain ⟨J, hB⟩ := ka_drop h.1 ha hL hj hr hfr hf hp hpt hw hb tn t34
  have hs3 := hL.2.2.1 s (List.mem_of_getElem? hj)
  have dn : ∀ k, k ≠ 4 → k ≠ 23 + 7 * a + s → (ka_gf C (23 + 7 * a + s) r) k = C k := fun k q1 q2 => by unfold ka_gf; rw [kb_up_ne _ _ _ q2, kb_up_ne _ _ _ q2, kb_up_ne _ _ _ q2, kb_up_ne _ _ _ q1]
  obtain ⟨sn, -, -, -⟩ := kr_rm_rows R a j
  have sn : ∀ k, k ≠ 34 → k ≠ 36 → k ≠ 37 → k ≠ 38 → S k = R k := fun k k0 k1 k2 k3 => (tn k k0).trans (sn k k1 k2 k3)
  have s33 := sn 33 (by decide) (by decide) (by decide) (by decide)
  obtain ⟨x0, x1⟩ := h.2.2.2.2
  have e19 := dn 19 (by omega) (by omega)
  have e26 := dn 26 (by omega) (by omega)
  exact ⟨kz_cnt h J (dn 1 (by omega) (by omega)) (dn 3 (by omega) (by omega)) (dn 6 (by omega) (by omega)) (fun k q1 q2 => dn k (by omega) (by omega)) (by rw [e19]) (by rw [e26]) (by rw [e19, e26, s33]; exact x0) (by rw [e19, e26, s33]; exact x1) (by rw [s33]) (sn 39 (by decide) (by decide) (by decide) (by decide)) (sn 40 (by decide) (by decide) (by decide) (by decide)) (sn 42 (by decide) (by decide) (by decide) (by decide)) (sn 43 (by decide) (by decide) (by decide) (by decide)), hB⟩
/-- who holds the blocks, and the blocks of the parts, once the first n parts of file f are dropped -/
def kl_7 (C : kb_M) (a f : Nat) : Nat → Nat → Int32
  | 0 => C 7
  | n + 1 => upd (kl_7 C a f n) (C (21 + 7 * a) (6 * f + n)).toNatClampNeg (-1)
def kl_21 (C : kb_M) (a f : Nat) : Nat → Nat → Int32
  | 0 => C (21 + 7 * a)
  | n + 1 => upd (kl_21 C a f n) (6 * f + n) (-1)
theorem kl_21_at (C : kb_M) (a f : Nat) : ∀ n q, kl_21 C a f n q = if 6 * f ≤ q ∧ q < 6 * f + n then -1 else C (21 + 7 * a) q := by
  intro n
  induction n with
  | zero => intro q; rw [if_neg (by omega)]; rfl
  | succ n ih =>
    intro q
    show upd (kl_21 C a f n) (6 * f + n) (-1) q = _
    by_cases hq : q = 6 * f + n
    · rw [hq, pk_us, if_pos (by omega)]
    · rw [pk_un hq, ih q]
      by_cases hr : 6 * f ≤ q ∧ q < 6 * f + n
      · rw [if_pos hr, if_pos (by omega)]
      · rw [if_neg hr, if_neg (by omega)]
theorem kl_7_at (C : kb_M) (a f : Nat) (w : Nat) : ∀ n, (∃ p, p < n ∧ (C (21 + 7 * a) (6 * f + p)).toNatClampNeg = w ∧ kl_7 C a f n w = -1) ∨ ((∀ p, p < n → (C (21 + 7 * a) (6 * f + p)).toNatClampNeg ≠ w) ∧ kl_7 C a f n w = C 7 w) := by
  intro n
  induction n with
  | zero => exact Or.inr ⟨fun p hp => absurd hp (by omega), rfl⟩
  | succ n ih =>
    have e : kl_7 C a f (n + 1) = upd (kl_7 C a f n) (C (21 + 7 * a) (6 * f + n)).toNatClampNeg (-1) := rfl
    by_cases hq : (C (21 + 7 * a) (6 * f + n)).toNatClampNeg = w
    · exact Or.inl ⟨n, by omega, hq, by rw [e, ← hq, pk_us]⟩
    · rw [e, pk_un (fun q => hq q.symm)]
      rcases ih with ⟨p, p1, p2, p3⟩ | ⟨p1, p2⟩
      · exact Or.inl ⟨p, by omega, p2, p3⟩
      · refine Or.inr ⟨fun p hp => ?_, p2⟩
        by_cases hpn : p = n
        · rw [hpn]; exact hq
        · exact p1 p (by omega)
theorem kl_7_c {C : kb_M} {a f m : Nat} (ha : a < 2) (hb : ∀ p, p < m → ∃ r, r < 24 ∧ C (21 + 7 * a) (6 * f + p) = nI r ∧ C 7 r = nI a) (hi : ∀ p q, p < m → q < m → C (21 + 7 * a) (6 * f + p) = C (21 + 7 * a) (6 * f + q) → p = q) {e : Nat} (he : e < 4) : ∀ n, n ≤ m → kp_c (kl_7 C a f n) (nI e) 24 + (if e = a then n else 0) = kp_c (C 7) (nI e) 24 := by
  intro n
  induction n with
  | zero =>
    intro _
    show kp_c (C 7) (nI e) 24 + _ = _
    split <;> rfl
  | succ n ih =>
    intro hn
    have ih := ih (by omega)
    obtain ⟨r, r1, r2, r3⟩ := hb n (by omega)
    have er : (C (21 + 7 * a) (6 * f + n)).toNatClampNeg = r := by rw [r2, nI_clamp (by omega)]
    have e7 : kl_7 C a f n r = nI a := by
      rcases kl_7_at C a f r n with ⟨p, p1, p2, -⟩ | ⟨-, p2⟩
      · obtain ⟨r', t1, t2, -⟩ := hb p (by omega)
        rw [t2, nI_clamp (by omega)] at p2
        have := hi p n (by omega) (by omega) (by rw [t2, r2, p2])
        omega
      · rw [p2]; exact r3
    have u := kp_c_upd (f := kl_7 C a f n) (r := r) (x := -1) (e := nI e) 24 r1
    rw [e7, if_neg (show ¬ (-1 : Int32) = nI e from fun q => nI_m1 (a := e) (by omega) q.symm)] at u
    show kp_c (upd (kl_7 C a f n) (C (21 + 7 * a) (6 * f + n)).toNatClampNeg (-1)) (nI e) 24 + _ = _
    rw [er]
    by_cases hea : e = a
    · rw [if_pos hea] at ih ⊢
      rw [if_pos (by rw [hea])] at u
      omega
    · rw [if_neg hea] at ih ⊢
      rw [if_neg (nI_ne (by omega) (by omega) (fun q => hea q.symm))] at u
      omega
end
section
/-! erase: the file is emptied -/
set_option maxHeartbeats 1000000 in
theorem ka_shrink {N : Nat} {F S D T : kb_M} (h : ki_J N F S) {a : Nat} (ha : a < 2) {L : List Nat} (hL : ki_B F S a L) {f n m : Nat} (hf : f < 6) (hn : kr_sz S (6 * a + f) = n) (hm : (n + 3) / 4 = m) (hnc : ∀ s, s < 3 → ∀ p, p < 6 → F (23 + 7 * a + s) 1 ≠ nI (6 * f + p))
    (d20 : D (20 + 7 * a) = upd (F (20 + 7 * a)) f 0) (d7 : D 7 = kl_7 F a f m) (d21 : D (21 + 7 * a) = kl_21 F a f m) (dn : ∀ k, k ≠ 7 → k ≠ 20 + 7 * a → k ≠ 21 + 7 * a → D k = F k)
    (t35 : T 35 = upd (S 35) (6 * a + f) 0) (t34 : ∀ i, ¬ (144 * a + 24 * f ≤ i ∧ i < 144 * a + 24 * f + 24) → T 34 i = S 34 i) (tn : ∀ k, k ≠ 34 → k ≠ 35 → T k = S k) : ki_J N D T ∧ ki_B D T a L := by
  have hR := h.1
  have h24 := (hR.2.1 (6 * a + f) (by omega)).2
  obtain ⟨h1, h2, ⟨p1, p2, p3⟩, -, hwd⟩ := h.2.2.2.2.2 a ha
  obtain ⟨l1, l2, l3, l4, l5, l6⟩ := hL
  have hm6 : m ≤ 6 := by omega
  have hblk : ∀ p, p < m → ∃ r, r < 24 ∧ F (21 + 7 * a) (6 * f + p) = nI r ∧ F 7 r = nI a := fun p hp => p1 f p hf (by omega) (by omega)
  have hinj : ∀ p q, p < m → q < m → F (21 + 7 * a) (6 * f + p) = F (21 + 7 * a) (6 * f + q) → p = q := fun p q hp hq he => by
    obtain ⟨r, r1, r2, -⟩ := hblk p hp
    have := p3 (6 * f + p) (6 * f + q) (by omega) (by omega) (by rw [r2]; exact nI_m1 (by omega)) he
    omega
  have szf : kr_sz T (6 * a + f) = 0 := by unfold kr_sz; rw [t35, pk_us]; rfl
  have szo : ∀ j, j ≠ 6 * a + f → kr_sz T j = kr_sz S j := fun j hj => by unfold kr_sz; rw [t35, pk_un hj]
  have t35' : T 35 = upd (S 35) (6 * a + f) (nI 0) := t35
  have hTok : kr_ok T := by
    have e39 := tn 39 (by decide) (by decide)
    have e38 := tn 38 (by decide) (by decide)
    have e41 := tn 41 (by decide) (by decide)
    have e37 := tn 37 (by decide) (by decide)
    obtain ⟨k1, k2, k3, k4, k5⟩ := hR
    refine ⟨?_, fun j hj => ?_, ?_, ?_, ?_⟩
    · unfold kr_bd; rw [e39]; exact k1
    · by_cases hjj : j = 6 * a + f
      · rw [hjj, szf]
        exact ⟨by rw [t35, pk_us]; rfl, by omega⟩
      · rw [szo j hjj, t35, pk_un hjj]
        exact k2 j hj
    · unfold kr_fr; rw [e38]; exact k3
    · rw [e41]; exact k4
    · rw [e37]; exact k5
  -- a block that is none of the file's stays
  have keep7 : ∀ q, (∀ p, p < m → F (21 + 7 * a) (6 * f + p) ≠ nI q) → q < 24 → D 7 q = F 7 q := by
    intro q hq hq24
    rw [d7]
    rcases kl_7_at F a f q m with ⟨p, y1, y2, -⟩ | ⟨-, y2⟩
    · obtain ⟨r, r1, r2, -⟩ := hblk p y1
      rw [r2, nI_clamp (by omega)] at y2
      exact absurd (by rw [r2, y2]) (hq p y1)
    · exact y2
  have D4 := dn 4 (by omega) (by omega) (by omega)
  have D5 := dn 5 (by omega) (by omega) (by omega)
  have D8 := dn 8 (by omega) (by omega) (by omega)
  have dc := dn (19 + 7 * a) (by omega) (by omega) (by omega)
  have dz : ∀ s, s < 3 → D (23 + 7 * a + s) = F (23 + 7 * a + s) := fun s hs => dn _ (by omega) (by omega) (by omega)
  obtain ⟨c1, c2⟩ := kr_c_set ha hf t35' (by omega) tn
  rw [hn, hm] at c1
  have hB : ki_B D T a L := by
    refine ⟨by rw [l1]; unfold kr_fr; rw [tn 38 (by decide) (by decide)], l2, l3, fun y hy hn => ?_, fun i y hi => ?_, fun i k y z hik hi hk => ?_⟩
    · rw [dz y hy]
      exact l4 y hy hn
    · have hy := l3 y (List.mem_of_getElem? hi)
      obtain ⟨q1, q2, q3, ⟨f1, q5, q6, q7, q8, q9⟩, q10⟩ := l5 i y hi
      rw [dz y hy, dc, D4, tn 36 (by decide) (by decide), tn 37 (by decide) (by decide)]
      refine ⟨q1, q2, q3, ⟨f1, q5, q6, q7, ?_, q9⟩, q10⟩
      rw [szo _ (fun e => ?_)]
      · exact q8
      · have : f1 = f := by omega
        subst this
        exact hnc y hy q5 q7 (q1.trans q9)
    · rw [dz y (l3 y (List.mem_of_getElem? hi)), dz z (l3 z (List.mem_of_getElem? hk)), tn 36 (by decide) (by decide)]
      exact l6 i k y z hik hi hk
  refine ⟨?_, hB⟩
  refine kj_app h ha hTok (tn 39 (by decide) (by decide)) (tn 41 (by decide) (by decide)) (tn 42 (by decide) (by decide)) (tn 43 (by decide) (by decide)) (tn 44 (by decide) (by decide)) (fun b hb q hq => ?_) (fun b hb e he => ?_) (fun k q1 q2 => dn k (by omega) (by omega) (by omega)) (fun o ho hoa => ⟨fun k q1 q2 => dn k (by omega) (by omega) (by omega), fun y hy => t34 _ (by omega), fun f0 _ => by rw [t35, pk_un (by omega)], fun i hi => ⟨by rw [tn 36 (by decide) (by decide)], by rw [tn 37 (by decide) (by decide)]⟩, by rw [tn 38 (by decide) (by decide)]⟩) (fun e he hea => ?_) ⟨⟨fun f0 hf0 => ?_, ?_⟩, by rw [dc]; exact h2, ⟨fun f0 p hf0 hp hlt => ?_, fun f0 p hf0 hp hlt => ?_, ?_⟩, ⟨L, hB⟩, ?_⟩
  · by_cases hb1 : b = 1
    · subst hb1
      show D 7 q = -1 ∨ ∃ e, e < 4 ∧ D 7 q = nI e
      rw [d7]
      rcases kl_7_at F a f q m with ⟨p, -, -, y2⟩ | ⟨-, y2⟩
      · exact Or.inl y2
      · rw [y2]
        exact h.2.2.1 1 hb q hq
    · rw [dn _ (by omega) (by omega) (by omega)]
      exact h.2.2.1 b hb q hq
  · by_cases hb1 : b = 1
    · subst hb1
      have h0 : kp_c (F 7) (nI e) 24 = kr_c S e 1 := h.2.2.2.1 1 (by decide) e he
      have u := kl_7_c ha hblk hinj he m (Nat.le_refl _)
      show kp_c (D 7) (nI e) 24 = kr_c T e 1
      rw [d7]
      by_cases hea : e = a
      · subst hea
        rw [if_pos rfl] at u
        omega
      · rw [if_neg hea] at u
        rw [c2 e 1 he (by decide) (fun q => hea q.1)]
        omega
    · rw [dn _ (by omega) (by omega) (by omega), h.2.2.2.1 b hb e he, c2 e b he hb (fun q => hb1 q.2)]
  · intro b hb q hq hc
    refine ⟨?_, fun k hk => by rw [dn (5 + 3 * b) (by omega) (by omega) (by omega)]⟩
    by_cases hb1 : b = 1
    · subst hb1
      have hc : F 7 q = nI e := hc
      show D 7 q = nI e
      rw [keep7 q (fun p hp hc2 => ?_) hq]
      · exact hc
      · obtain ⟨r, r1, r2, r3⟩ := hblk p hp
        have e1 : r = q := (nI_eq (by omega) (by omega)).mp (r2.symm.trans hc2)
        rw [← e1, r3, nI_eq (by omega) (by omega)] at hc
        exact hea hc.symm
    · rw [dn (4 + 3 * b) (by omega) (by omega) (by omega)]
      exact hc
  · rw [d20, t35]
    by_cases hff : f0 = f
    · rw [hff, pk_us, pk_us]
    · rw [pk_un hff, pk_un (by omega)]
      exact h1.1 f0 hf0
  · have e1 : kr_c T a 1 = kr_b T a 6 := by unfold kr_c; rw [if_pos ha, if_neg (by decide)]
    have e2 : kr_c S a 1 = kr_b S a 6 := by unfold kr_c; rw [if_pos ha, if_neg (by decide)]
    have := h1.2
    omega
  · have hff : f0 ≠ f := fun e => by
      rw [e, szf] at hlt
      omega
    rw [szo _ (by omega)] at hlt
    obtain ⟨r, r1, r2, r3⟩ := p1 f0 p hf0 hp hlt
    refine ⟨r, r1, by rw [d21, kl_21_at, if_neg (by omega)]; exact r2, ?_⟩
    rw [keep7 r (fun q hq hc => ?_) r1]
    · exact r3
    · have := p3 (6 * f + q) (6 * f0 + p) (by omega) (by omega) (by rw [hc]; exact nI_m1 (by omega)) (by rw [hc, r2])
      omega
  · rw [d21, kl_21_at]
    by_cases hr : 6 * f ≤ 6 * f0 + p ∧ 6 * f0 + p < 6 * f + m
    · rw [if_pos hr]
    · rw [if_neg hr]
      refine p2 f0 p hf0 hp (fun q => ?_)
      by_cases hff : f0 = f
      · subst hff
        rw [hn] at q
        omega
      · rw [szo _ (by omega)] at hlt
        exact hlt q
  · intro i j hi hj hne heq
    rw [d21, kl_21_at] at hne heq
    rw [kl_21_at] at heq
    by_cases hr : 6 * f ≤ i ∧ i < 6 * f + m
    · rw [if_pos hr] at hne
      exact absurd rfl hne
    · rw [if_neg hr] at hne heq
      by_cases hr2 : 6 * f ≤ j ∧ j < 6 * f + m
      · rw [if_pos hr2] at heq
        exact absurd heq hne
      · rw [if_neg hr2] at heq
        exact p3 i j hi hj hne heq
  · intro f0 i0 r0 hf0 hi0 hr0 hr24
    have hff : f0 ≠ f := fun e => by
      rw [e, szf] at hi0
      omega
    rw [szo _ (by omega)] at hi0
    have h240 := (hR.2.1 (6 * a + f0) (by omega)).2
    rw [d21, kl_21_at, if_neg (by omega)] at hr0
    obtain ⟨w1, w2⟩ := hwd f0 i0 r0 hf0 hi0 hr0 hr24
    rw [t34 _ (by omega), D5, D8]
    refine ⟨fun y r1 hy hyp hyf hr1 => ?_, fun hno => w2 (fun y hy => by rw [← dz y hy]; exact hno y hy)⟩
    rw [dz y hy] at hyp hyf ⊢
    exact w1 y r1 hy hyp hyf hr1
end
section
/-! erase: the walks -/
theorem kl_7_eq {C F : kb_M} {a f : Nat} (h7 : F 7 = C 7) (h21 : F (21 + 7 * a) = C (21 + 7 * a)) : ∀ n, kl_7 F a f n = kl_7 C a f n := by
  intro n
  induction n with
  | zero => exact h7
  | succ n ih =>
    show upd (kl_7 F a f n) (F (21 + 7 * a) (6 * f + n)).toNatClampNeg (-1) = upd (kl_7 C a f n) (C (21 + 7 * a) (6 * f + n)).toNatClampNeg (-1)
    rw [ih, h21]
theorem kl_21_eq {C F : kb_M} {a f : Nat} (h21 : F (21 + 7 * a) = C (21 + 7 * a)) (n : Nat) : kl_21 F a f n = kl_21 C a f n := by
  funext q
  rw [kl_21_at, kl_21_at, h21]
theorem kr_er_34 (R : kb_M) (a f : Nat) : ∀ n, (kr_er R a f n) 34 = R 34 := by
  intro n
  induction n with
  | zero => rfl
  | succ n ih =>
    unfold kr_er
    cases hl : kr_fi (kr_er R a f n) a (nI (6 * f + n)) (kr_fr (kr_er R a f n) a) with
    | none => exact ih
    | some j =>
      show (kr_rm (kr_er R a f n) a j) 34 = R 34
      rw [(kr_rm_rows _ _ _).1 34 (by decide) (by decide) (by decide)]
      exact ih
theorem kr_er_n (R : kb_M) (a f n : Nat) (h : kr_fi (kr_er R a f n) a (nI (6 * f + n)) (kr_fr (kr_er R a f n) a) = none) : kr_er R a f (n + 1) = kr_er R a f n := by
  show (match kr_fi (kr_er R a f n) a (nI (6 * f + n)) (kr_fr (kr_er R a f n) a) with
    | none => kr_er R a f n
    | some j => kr_rm (kr_er R a f n) a j) = _
  rw [h]
theorem kr_er_s (R : kb_M) (a f n j : Nat) (h : kr_fi (kr_er R a f n) a (nI (6 * f + n)) (kr_fr (kr_er R a f n) a) = some j) : kr_er R a f (n + 1) = kr_rm (kr_er R a f n) a j := by
  show (match kr_fi (kr_er R a f n) a (nI (6 * f + n)) (kr_fr (kr_er R a f n) a) with
    | none => kr_er R a f n
    | some j => kr_rm (kr_er R a f n) a j) = _
  rw [h]
set_option maxRecDepth 100000 in
theorem cq_drop0 {a q w : Nat} (ha : a < 2) (hq : q < 36) (hw : w < 24) (E : kb_M) (hb : E (21 + 7 * a) q = nI w) (hs : ka_so E (19 + 7 * a) (nI q) = none) : kb_E (kb_en kz_App_dropPart [.inr (some (19 + 7 * a)), .inl (nI q)] E) (fun t => t = (none, kb_up (kb_up E 7 w (-1)) (21 + 7 * a) q (-1))) := by
  have S := cq_slotOf (kq_in ha) E (nI q)
  rw [hs] at S
  have hcl : (nI q).toNatClampNeg = q := nI_clamp (by omega)
  have G := cp_endBinding (Or.inr ⟨rfl, rfl⟩ : kp_P 6 24) E hw
  have e : E (21 + 7 * a) (nI q).toNatClampNeg = nI w := by rw [hcl]; exact hb
  rw [← e] at G
  have ha01 : a = 0 ∨ a = 1 := by omega
  rcases ha01 with rfl | rfl
  all_goals
    refine kb_go 60 [] ?_
    refine kb_E_to S ?_
    refine And.intro (kb_in_nI (by omega) (by omega)) ?_
    refine kb_E_to G ?_
    refine And.intro (kb_in_nI (by omega) (by omega)) (And.intro rfl ?_)
    rw [hcl]
    rfl
set_option maxRecDepth 100000 in
theorem cq_drop1 {a q w s r : Nat} (ha : a < 2) (hq : q < 36) (hw : w < 24) (hs3 : s < 3) (hr : r < 12) (E : kb_M) (hb : E (21 + 7 * a) q = nI w) (hs : ka_so E (19 + 7 * a) (nI q) = some (23 + 7 * a + s)) (hf : E (23 + 7 * a + s) 0 = nI r) : kb_E (kb_en kz_App_dropPart [.inr (some (19 + 7 * a)), .inl (nI q)] E) (fun t => t = (none, kb_up (kb_up (ka_gf E (23 + 7 * a + s) r) 7 w (-1)) (21 + 7 * a) q (-1))) := by
  have S := cq_slotOf (kq_in ha) E (nI q)
  rw [hs] at S
  have hcl : (nI q).toNatClampNeg = q := nI_clamp (by omega)
  have F := cq_giveFrameBack (kq_in ha) (by unfold kq_S; omega : kq_S (19 + 7 * a) (23 + 7 * a + s)) E hr hf
  have dn : ∀ k, k ≠ 4 → k ≠ 23 + 7 * a + s → (ka_gf E (23 + 7 * a + s) r) k = E k := fun k q1 q2 => by unfold ka_gf; rw [kb_up_ne _ _ _ q2, kb_up_ne _ _ _ q2, kb_up_ne _ _ _ q2, kb_up_ne _ _ _ q1]
  have hb2 : (ka_gf E (23 + 7 * a + s) r) (21 + 7 * a) q = nI w := by rw [dn _ (by omega) (by omega)]; exact hb
  generalize ka_gf E (23 + 7 * a + s) r = M at *
  have G := cp_endBinding (Or.inr ⟨rfl, rfl⟩ : kp_P 6 24) M hw
  have e : M (21 + 7 * a) (nI q).toNatClampNeg = nI w := by rw [hcl]; exact hb2
  rw [← e] at G
  have ha01 : a = 0 ∨ a = 1 := by omega
  rcases ha01 with rfl | rfl
  all_goals
    refine kb_go 60 [] ?_
    refine kb_E_to S ?_
    refine kb_E_to F ?_
    refine And.intro (kb_in_nI (by omega) (by omega)) ?_
    refine kb_E_to G ?_
    refine And.intro (kb_in_nI (by omega) (by omega)) (And.intro rfl ?_)
    rw [hcl]
    rfl
end
section
/-! erase: the loop over the parts -/
/-- i parts are dropped: memory E is a tied memory F but for two rows -/
def kl_I (N B : Nat) (C R : kb_M) (a f i : Nat) (E : kb_M) : Prop := ∃ (F S : kb_M) (L : List Nat), ki_Z N B F S ∧ ki_B F S a L ∧ (∀ k, k ≠ 34 → S k = (kr_er R a f i) k) ∧ (∀ j, ¬ (144 * a + 24 * f ≤ j ∧ j < 144 * a + 24 * f + 24) → S 34 j = R 34 j) ∧ (∀ s p, s < 3 → p < i → F (23 + 7 * a + s) 1 ≠ nI (6 * f + p)) ∧ F 7 = C 7 ∧ F (21 + 7 * a) = C (21 + 7 * a) ∧ (∀ k, k ≠ 7 → k ≠ 21 + 7 * a → E k = F k) ∧ E 7 = kl_7 C a f i ∧ E (21 + 7 * a) = kl_21 C a f i
theorem kl_up {E F : kb_M} {k : Nat} (h : E k = F k) (c i : Nat) (x : Int32) : kb_up E c i x k = kb_up F c i x k := by
  by_cases hk : k = c
  · subst hk
    rw [kb_up_at, kb_up_at, h]
  · rw [kb_up_ne _ _ _ hk, kb_up_ne _ _ _ hk]
    exact h
theorem kl_gf {E F : kb_M} {k : Nat} (h : E k = F k) (z r : Nat) : (ka_gf E z r) k = (ka_gf F z r) k := kl_up (kl_up (kl_up (kl_up h _ _ _) _ _ _) _ _ _) _ _ _
theorem kl_step {N B : Nat} {C R E : kb_M} {a f i : Nat} (hR : kr_ok R) (h : kl_I N B C R a f i E) (ha : a < 2) (hf : f < 6) (hi : 4 * i < kr_sz R (6 * a + f)) : kb_E (kb_en kz_App_dropPart [.inr (some (19 + 7 * a)), .inl (nI (6 * f + i))] E) (fun t => t.1 = none ∧ kl_I N B C R a f (i + 1) t.2) := by
  obtain ⟨F, S, L, hZ, hL, sn, s34, hno, f7, f21, en, e7, e21⟩ := h
  have h24 := (hR.2.1 (6 * a + f) (by omega)).2
  obtain ⟨ok, r35⟩ := kr_er_ok hR ha f i
  have s35 : S 35 = R 35 := (sn 35 (by decide)).trans r35
  have hP := (hZ.1.2.2.2.2.2 a ha).2.2.1
  obtain ⟨w, w1, w2, w3⟩ := hP.1 f i hf (by omega) (by unfold kr_sz; rw [s35]; exact hi)
  have efr : kr_fr S a = kr_fr (kr_er R a f i) a := by unfold kr_fr; rw [sn 38 (by decide)]
  have eb : E (21 + 7 * a) (6 * f + i) = nI w := by rw [e21, kl_21_at, if_neg (by omega), ← f21]; exact w2
  have ew : (C (21 + 7 * a) (6 * f + i)).toNatClampNeg = w := by rw [← f21, w2, nI_clamp (by omega)]
  have es : ∀ s, s < 3 → E (19 + 7 * a + 4 + s) = F (23 + 7 * a + s) := fun s hs => by
    rw [en _ (by omega) (by omega)]
    congr 1
    omega
  obtain ⟨l1, l2, l3, l4, l5, l6⟩ := hL
  have hL : ki_B F S a L := ⟨l1, l2, l3, l4, l5, l6⟩
  obtain ⟨k1, k2⟩ := ka_so_spec E (19 + 7 * a) (nI (6 * f + i))
  cases hfi : kr_fi (kr_er R a f i) a (nI (6 * f + i)) (kr_fr (kr_er R a f i) a) with
  | none =>
    have hnc : ∀ s, s < 3 → F (23 + 7 * a + s) 1 ≠ nI (6 * f + i) := by
      intro s hs he
      by_cases hm : s ∈ L
      · obtain ⟨j, hj⟩ := List.getElem?_of_mem hm
        have hjl : j < kr_fr S a := by rw [← l1]; exact (List.getElem?_eq_some_iff.mp hj).1
        have q := (l5 j s hj).1
        rw [sn 36 (by decide)] at q
        exact kr_fi_no hfi j (by omega) (q.symm.trans he)
      · rw [(l4 s hs hm).2.1] at he
        exact nI_m1 (by omega) he.symm
    have hso : ka_so E (19 + 7 * a) (nI (6 * f + i)) = none := by
      cases hz : ka_so E (19 + 7 * a) (nI (6 * f + i)) with
      | none => rfl
      | some z =>
        obtain ⟨s, s1, s2, s3⟩ := k2 z hz
        rw [s2, es s s1] at s3
        exact absurd s3 (hnc s s1)
    refine kb_E_imp (cq_drop0 ha (by omega) w1 E eb hso) (fun t ht => ?_)
    subst ht
    refine ⟨rfl, F, S, L, hZ, hL, fun k hk => by rw [kr_er_n R a f i hfi]; exact sn k hk, s34, fun s p hs hp => ?_, f7, f21, fun k q1 q2 => ?_, ?_, ?_⟩
    · by_cases hpi : p = i
      · rw [hpi]; exact hnc s hs
      · exact hno s p hs (by omega)
    · show kb_up (kb_up E 7 w (-1)) (21 + 7 * a) (6 * f + i) (-1) k = F k
      rw [kb_up_ne _ _ _ q2, kb_up_ne _ _ _ q1]
      exact en k q1 q2
    · show kb_up (kb_up E 7 w (-1)) (21 + 7 * a) (6 * f + i) (-1) 7 = upd (kl_7 C a f i) (C (21 + 7 * a) (6 * f + i)).toNatClampNeg (-1)
      rw [kb_up_ne _ _ _ (by omega), kb_up_at, e7, ew]
    · show kb_up (kb_up E 7 w (-1)) (21 + 7 * a) (6 * f + i) (-1) (21 + 7 * a) = upd (kl_21 C a f i) (6 * f + i) (-1)
      rw [kb_up_at, kb_up_ne _ _ _ (by omega), e21]
  | some j =>
    obtain ⟨hjl, hj36⟩ := kr_fi_lt hfi
    have hjL : j < L.length := by rw [l1, efr]; exact hjl
    obtain ⟨s, hs⟩ : ∃ s, L[j]? = some s := ⟨L[j], List.getElem?_eq_getElem hjL⟩
    have hs3 := l3 s (List.mem_of_getElem? hs)
    obtain ⟨q1, -, ⟨r, r1, r2, -⟩, -⟩ := l5 j s hs
    rw [sn 36 (by decide), hj36] at q1
    have hso : ka_so E (19 + 7 * a) (nI (6 * f + i)) = some (23 + 7 * a + s) := by
      cases hz : ka_so E (19 + 7 * a) (nI (6 * f + i)) with
      | none =>
        have := k1 hz s hs3
        rw [es s hs3] at this
        exact absurd q1 this
      | some z =>
        obtain ⟨y, y1, y2, y3⟩ := k2 z hz
        rw [y2, es y y1] at y3
        have := ka_uniq hL hs3 y1 (by omega) q1 y3
        rw [y2, this]
        congr 1
        omega
    have ef : E (23 + 7 * a + s) 0 = nI r := by rw [en _ (by omega) (by omega)]; exact r2
    have dn : ∀ M : kb_M, ∀ k, k ≠ 4 → k ≠ 23 + 7 * a + s → (ka_gf M (23 + 7 * a + s) r) k = M k := fun M k q1 q2 => by unfold ka_gf; rw [kb_up_ne _ _ _ q2, kb_up_ne _ _ _ q2, kb_up_ne _ _ _ q2, kb_up_ne _ _ _ q1]
    have dz : (ka_gf F (23 + 7 * a + s) r) (23 + 7 * a + s) = upd (upd (upd (F (23 + 7 * a + s)) 0 (-1)) 1 (-1)) 3 0 := by unfold ka_gf; rw [kb_up_at, kb_up_at, kb_up_at, kb_up_ne _ _ _ (by omega)]
    generalize hg : (fun x => if 144 * a + 24 * f + 4 * i ≤ x ∧ x < 144 * a + 24 * f + 4 * i + 4 then F 8 (4 * w + (x - (144 * a + 24 * f + 4 * i))) else S 34 x : Nat → Int32) = g
    have D := kz_drop (S := kb_ro (kr_rm S a j) 34 g) hZ ha hL hs r1 r2 hf (show i < 6 by omega) q1 w1 w2 (fun k hk => kb_ro_ne _ _ hk) (fun x => by rw [kb_ro_at, ← hg])
    have eS : S = kb_ro (kr_er R a f i) 34 (S 34) := by
      funext k
      by_cases hk : k = 34
      · rw [hk, kb_ro_at]
      · rw [kb_ro_ne _ _ hk, sn k hk]
    refine kb_E_imp (cq_drop1 ha (by omega) w1 hs3 r1 E eb hso ef) (fun t ht => ?_)
    subst ht
    refine ⟨rfl, _, _, _, D.1, D.2, fun k hk => ?_, fun x hx => ?_, fun y p hy hp => ?_, ?_, ?_, fun k q1 q2 => ?_, ?_, ?_⟩
    · rw [kr_er_s R a f i j hfi, kb_ro_ne _ _ hk, eS, kc_rm, kb_ro_ne _ _ hk]
    · rw [kb_ro_at, ← hg]
      show (if 144 * a + 24 * f + 4 * i ≤ x ∧ x < 144 * a + 24 * f + 4 * i + 4 then F 8 (4 * w + (x - (144 * a + 24 * f + 4 * i))) else S 34 x) = R 34 x
      rw [if_neg (by omega)]
      exact s34 x hx
    · by_cases hys : y = s
      · rw [hys, dz, pk_un (by decide), pk_us]
        exact fun q => nI_m1 (by omega) q.symm
      · rw [dn F _ (by omega) (by omega)]
        by_cases hpi : p = i
        · rw [hpi]
          exact fun q => hys (ka_uniq hL hs3 hy (by omega) q1 q)
        · exact hno y p hy (by omega)
    · rw [dn F _ (by omega) (by omega)]; exact f7
    · rw [dn F _ (by omega) (by omega)]; exact f21
    · show kb_up (kb_up (ka_gf E (23 + 7 * a + s) r) 7 w (-1)) (21 + 7 * a) (6 * f + i) (-1) k = _
      rw [kb_up_ne _ _ _ q2, kb_up_ne _ _ _ q1]
      exact kl_gf (en k q1 q2) _ _
    · show kb_up (kb_up (ka_gf E (23 + 7 * a + s) r) 7 w (-1)) (21 + 7 * a) (6 * f + i) (-1) 7 = upd (kl_7 C a f i) (C (21 + 7 * a) (6 * f + i)).toNatClampNeg (-1)
      rw [kb_up_ne _ _ _ (by omega), kb_up_at, dn E _ (by omega) (by omega), e7, ew]
    · show kb_up (kb_up (ka_gf E (23 + 7 * a + s) r) 7 w (-1)) (21 + 7 * a) (6 * f + i) (-1) (21 + 7 * a) = upd (kl_21 C a f i) (6 * f + i) (-1)
      rw [kb_up_at, kb_up_ne _ _ _ (by omega), dn E _ (by omega) (by omega), e21]
/-- all parts are dropped, the length is 0 -/
theorem kl_end {N B : Nat} {C R E : kb_M} {a f m : Nat} (hR : kr_ok R) (hm : (kr_sz R (6 * a + f) + 3) / 4 = m) (h : kl_I N B C R a f m E) (ha : a < 2) (hf : f < 6) : ki_Z N B (kb_up E (20 + 7 * a) f 0) (kr_era R a f) := by
  obtain ⟨F, S, L, hZ, hL, sn, s34, hno, f7, f21, en, e7, e21⟩ := h
  have h24 := (hR.2.1 (6 * a + f) (by omega)).2
  obtain ⟨ok, r35⟩ := kr_er_ok hR ha f m
  have s35 : S 35 = R 35 := (sn 35 (by decide)).trans r35
  have hsz : ∀ j, kr_sz S j = kr_sz R j := fun j => by unfold kr_sz; rw [s35]
  have eT : kr_era R a f = kb_up (kr_er R a f m) 35 (6 * a + f) 0 := by unfold kr_era; rw [hm]
  have tn : ∀ k, k ≠ 34 → k ≠ 35 → (kr_era R a f) k = S k := fun k k1 k2 => by rw [eT, kb_up_ne _ _ _ k2, sn k k1]
  have dn : ∀ k, k ≠ 7 → k ≠ 20 + 7 * a → k ≠ 21 + 7 * a → (kb_up E (20 + 7 * a) f 0) k = F k := fun k q1 q2 q3 => by rw [kb_up_ne _ _ _ q2]; exact en k q1 q3
  have J := ka_shrink (T := kr_era R a f) (D := kb_up E (20 + 7 * a) f 0) hZ.1 ha hL hf (hsz _) hm (fun s hs p hp => by
      by_cases hpm : p < m
      · exact hno s p hs hpm
      · obtain ⟨l1, l2, l3, l4, l5, l6⟩ := hL
        by_cases hml : s ∈ L
        · obtain ⟨j, hj⟩ := List.getElem?_of_mem hml
          obtain ⟨q1, -, -, ⟨f1, p1, y1, y2, y3, y4⟩, -⟩ := l5 j s hj
          intro q
          have e := (nI_eq (by omega) (by omega)).mp ((q1.trans y4).symm.trans q)
          have : f1 = f := by omega
          subst this
          rw [hsz] at y3
          omega
        · rw [(l4 s hs hml).2.1]
          exact fun q => nI_m1 (by omega) q.symm)
    (by rw [kb_up_at, en _ (by omega) (by omega)]) (by rw [kb_up_ne _ _ _ (by omega), e7, kl_7_eq f7 f21]) (by rw [kb_up_ne _ _ _ (by omega), e21, kl_21_eq f21]) dn (by rw [eT, kb_up_at, r35, s35]) (fun x hx => by rw [eT, kb_up_ne _ _ _ (by decide), kr_er_34, s34 x hx]) tn
  have s33 := tn 33 (by decide) (by decide)
  obtain ⟨x0, x1⟩ := hZ.2.2.2.2
  have e19 := dn 19 (by omega) (by omega) (by omega)
  have e26 := dn 26 (by omega) (by omega) (by omega)
  exact kz_cnt hZ J.1 (dn 1 (by omega) (by omega) (by omega)) (dn 3 (by omega) (by omega) (by omega)) (dn 6 (by omega) (by omega) (by omega)) (fun k q1 q2 => dn k (by omega) (by omega) (by omega)) (by rw [e19]) (by rw [e26]) (by rw [e19, e26, s33]; exact x0) (by rw [e19, e26, s33]; exact x1) (by rw [s33]) (tn 39 (by decide) (by decide)) (tn 40 (by decide) (by decide)) (tn 42 (by decide) (by decide)) (tn 43 (by decide) (by decide))
end
section
/-! eraseFile, and erase of the class against the reference -/
theorem kl_x6 (f : Nat) : (nI f + Int32.ofInt 1) * (Int8.ofInt 6).toInt32 = nI (6 * f + 6) := by
  rw [show Int32.ofInt 1 = nI 1 from rfl, show (Int8.ofInt 6).toInt32 = nI 6 from rfl, nI_add, pk_mul]
  congr 1
  omega
theorem kl_x0 (f : Nat) : nI f * (Int8.ofInt 6).toInt32 = nI (6 * f + 0) := by
  rw [show (Int8.ofInt 6).toInt32 = nI 6 from rfl, pk_mul]
  congr 1
  omega
set_option maxRecDepth 100000 in
theorem kl_loop {N B : Nat} {C R : kb_M} (hR : kr_ok R) {a f m : Nat} (ha : a < 2) (hf : f < 6) (hm : (kr_sz R (6 * a + f) + 3) / 4 = m) : ∀ (n i j : Nat) (v e : Int32) (E : kb_M), i + n = 6 → (i ≤ m → j = i) → (m ≤ i → j = m) → v = nI (6 * f + i) → e = nI j → kl_I N B C R a f j E → kb_E (kz_App_eraseFile, 16, [some (.inr (some (19 + 7 * a))), some (.inl (nI f)), some (.inl e), some (.inl v)], [], E) (fun q => q.1 = some (.inl (nI m)) ∧ ki_Z N B q.2 (kr_era R a f)) := by
  have h24 := (hR.2.1 (6 * a + f) (by omega)).2
  have x6 := kl_x6 f
  have ha01 : a = 0 ∨ a = 1 := by omega
  intro n
  induction n with
  | zero =>
    intro i j v e E hi h1 h2 hv he hI
    subst hv
    subst he
    have hj : j = m := h2 (by omega)
    subst hj
    have W := kl_end hR hm hI ha hf
    have hcl : (nI f).toNatClampNeg = f := nI_clamp (by omega)
    rcases ha01 with rfl | rfl
    all_goals
      refine kb_go 60 [16] ?_
      refine And.intro (fun h => ?_) (fun h => ?_)
      · refine And.intro (kb_in_nI (by omega) (by omega)) (And.intro rfl ⟨rfl, ?_⟩)
        rw [hcl]
        exact W
      · have h := of_decide_eq_false h
        rw [x6, nI_leI (by omega) (by omega)] at h
        omega
  | succ n ih =>
    intro i j v e E hi h1 h2 hv he hI
    subst hv
    subst he
    have hcl : (nI (6 * f + i)).toNatClampNeg = 6 * f + i := nI_clamp (by omega)
    by_cases hlt : i < m
    · have hj : j = i := h1 (by omega)
      subst hj
      have S := kl_step hR hI ha hf (by omega)
      have hb : E (21 + 7 * a) (6 * f + j) ≠ -1 := by
        obtain ⟨F, S, L, hZ, hL, sn, s34, hno, f7, f21, en, e7, e21⟩ := hI
        have s35 : S 35 = R 35 := (sn 35 (by decide)).trans (kr_er_ok hR ha f j).2
        obtain ⟨w, w1, w2, -⟩ := (hZ.1.2.2.2.2.2 a ha).2.2.1.1 f j hf (by omega) (by unfold kr_sz; rw [s35]; show 4 * j < kr_sz R (6 * a + f); omega)
        rw [e21, kl_21_at, if_neg (by omega), ← f21, w2]
        exact nI_m1 (by omega)
      rcases ha01 with rfl | rfl
      all_goals
        refine kb_go 60 [16] ?_
        refine And.intro (fun h => ?_) (fun _ => ?_)
        · have h := of_decide_eq_true h
          rw [x6, nI_leI (by omega) (by omega)] at h
          omega
        · refine And.intro (kb_in_nI (by omega) (by omega)) ?_
          refine And.intro (fun h => ?_) (fun h => ?_)
          · have h := of_decide_eq_true h
            rw [hcl] at h
            exact absurd h hb
          · refine kb_E_then S (fun v M hq => ?_)
            obtain ⟨q1, q2⟩ := hq
            dsimp only at q1 q2
            subst q1
            exact ih (j + 1) (j + 1) _ _ M (by omega) (fun _ => rfl) (fun _ => by omega) (nI_succ (6 * f + j)).symm (nI_succ j).symm q2
    · have hj : j = m := h2 (by omega)
      subst hj
      have hb : E (21 + 7 * a) (6 * f + i) = -1 := by
        obtain ⟨F, S, L, hZ, hL, sn, s34, hno, f7, f21, en, e7, e21⟩ := hI
        have s35 : S 35 = R 35 := (sn 35 (by decide)).trans (kr_er_ok hR ha f j).2
        have p2 := (hZ.1.2.2.2.2.2 a ha).2.2.1.2.1 f i hf (by omega) (by unfold kr_sz; rw [s35]; show ¬ 4 * i < kr_sz R (6 * a + f); omega)
        rw [e21, kl_21_at, if_neg (by omega), ← f21]
        exact p2
      rcases ha01 with rfl | rfl
      all_goals
        refine kb_go 60 [16] ?_
        refine And.intro (fun h => ?_) (fun _ => ?_)
        · have h := of_decide_eq_true h
          rw [x6, nI_leI (by omega) (by omega)] at h
          omega
        · refine And.intro (kb_in_nI (by omega) (by omega)) ?_
          refine And.intro (fun h => ?_) (fun h => ?_)
          · exact ih (i + 1) j _ _ E (by omega) (fun _ => by omega) (fun _ => rfl) (nI_succ (6 * f + i)).symm rfl hI
          · have h := of_decide_eq_false h
            rw [hcl] at h
            exact absurd hb h
set_option maxRecDepth 100000 in
theorem op_eraseFile {N B : Nat} {C R : kb_M} (h : ki_Z N B C R) {a f : Nat} (ha : a < 2) (hf : f < 6) : kb_E (kb_en kz_App_eraseFile [.inr (some (19 + 7 * a)), .inl (nI f)] C) (fun q => q.1 = some (.inl (nI ((kr_sz R (6 * a + f) + 3) / 4))) ∧ ki_Z N B q.2 (kr_era R a f)) := by
  obtain ⟨L, hL⟩ := (h.1.2.2.2.2.2 a ha).2.2.2.1
  have I0 : kl_I N B C R a f 0 C := ⟨C, R, L, h, hL, fun _ _ => rfl, fun _ _ => rfl, fun s p _ hp => absurd hp (by omega), rfl, rfl, fun _ _ _ => rfl, rfl, rfl⟩
  have W := kl_loop h.1.1 ha hf rfl 6 0 0 _ 0 C (by omega) (fun _ => rfl) (fun _ => by omega) (kl_x0 f) rfl I0
  have F := cq_isFile C (nI f)
  rw [if_pos (show 0 ≤ nI f ∧ nI f ≤ 5 from kr_out (n := 5) (by omega) (by omega))] at F
  have ha01 : a = 0 ∨ a = 1 := by omega
  rcases ha01 with rfl | rfl
  all_goals
    refine kb_go 60 [16] ?_
    refine kb_E_to F ?_
    refine And.intro (fun _ => ?_) (fun h => absurd h (by decide))
    exact W
set_option maxRecDepth 100000 in
theorem op_eraseFile_no {C : kb_M} {a : Nat} (ha : a < 2) {v : Int32} (hv : ¬ (0 ≤ v ∧ v ≤ 5)) : kb_E (kb_en kz_App_eraseFile [.inr (some (19 + 7 * a)), .inl v] C) (fun q => q = (some (.inl (-1)), C)) := by
  have F := cq_isFile C v
  rw [if_neg hv] at F
  have ha01 : a = 0 ∨ a = 1 := by omega
  rcases ha01 with rfl | rfl
  all_goals
    refine kb_go 60 [16] ?_
    refine kb_E_to F ?_
    refine And.intro (fun h => absurd h (by decide)) (fun _ => ?_)
    exact And.intro rfl rfl
set_option maxRecDepth 100000 in
theorem ow_erase {N : Nat} {C R : kb_M} (h : ki_V N C R) (u v : Int32) : kw_P N kz_BK_erase kz_Model_erase [.inl u, .inl v] C R := by
  by_cases hu : 0 ≤ u ∧ u ≤ 1
  · obtain ⟨a, ha, rfl⟩ := kr_in u (n := 1) (by decide) hu
    have ha : a < 2 := by omega
    have O := op_appOf C ha
    by_cases hv : 0 ≤ v ∧ v ≤ 5
    · obtain ⟨f, hf, rfl⟩ := kr_in v (n := 5) (by decide) hv
      have W := op_eraseFile (kz_V.mp h) ha (show f < 6 by omega)
      refine ⟨_, _, cr_erase h.1.1 ha (by omega), ?_⟩
      have ha01 : a = 0 ∨ a = 1 := by omega
      rcases ha01 with rfl | rfl
      all_goals
        refine kb_go 60 [] ?_
        refine kb_E_to O ?_
        refine kb_E_then W (fun v M hq => ?_)
        obtain ⟨t1, t2⟩ := hq
        dsimp only at t1 t2
        subst t1
        exact And.intro rfl ⟨rfl, kv_z (kz_up t2)⟩
    · have W := op_eraseFile_no (C := C) ha hv
      refine ⟨-1, R, cr_erase_no (fun q => hv q.2), ?_⟩
      have ha01 : a = 0 ∨ a = 1 := by omega
      rcases ha01 with rfl | rfl
      all_goals
        refine kb_go 60 [] ?_
        refine kb_E_to O ?_
        refine kb_E_to W ?_
        exact And.intro rfl ⟨rfl, kv_up h⟩
  · refine ⟨-1, R, cr_erase_no (fun q => hu q.1), ?_⟩
    refine kb_go 60 [] ?_
    refine kb_E_to (op_appOf_no C hu) ?_
    exact And.intro rfl ⟨rfl, kv_up h⟩
end
section
/-! every public method: class and reference in one statement -/
theorem kw_of {N z y : Nat} {A : List kb_v} {C R : kb_M} {X : kb_R} (hv : ∃ v, X.1 = some (.inl v)) (hr : kb_E (kb_en y (.inr (some 33) :: A) R) (fun q => q = X)) (hc : kb_E (kb_en z (.inr (some 0) :: A) C) (fun q => q.1 = X.1 ∧ ki_V (N + 1) q.2 X.2)) : kw_P N z y A C R := by
  obtain ⟨v, hv⟩ := hv
  obtain ⟨X1, S⟩ := X
  have hv : X1 = some (.inl v) := hv
  subst hv
  exact ⟨v, S, hr, hc⟩
theorem kw_of0 {N z y : Nat} {A : List kb_v} {C R : kb_M} {X : kb_R} (hv : ∃ v, X.1 = some (.inl v)) (hr : kb_E (kb_en y (.inr (some 33) :: A) R) (fun q => q = X)) (hc : kb_E (kb_en z (.inr (some 0) :: A) C) (fun q => q.1 = X.1 ∧ ki_V N q.2 X.2)) : kw_P N z y A C R := kw_of hv hr (kb_E_imp hc (fun _ hq => ⟨hq.1, kv_up hq.2⟩))
theorem kw_same {N z y : Nat} {A : List kb_v} {C R : kb_M} (h : ki_V N C R) {v : Int32} (hr : kb_E (kb_en y (.inr (some 33) :: A) R) (fun q => q = (some (.inl v), R))) (hc : kb_E (kb_en z (.inr (some 0) :: A) C) (fun q => q = (some (.inl v), C))) : kw_P N z y A C R :=
  ⟨v, R, hr, kb_E_imp hc (fun q hq => by subst hq; exact ⟨rfl, kv_up h⟩)⟩
theorem ow_time {N : Nat} {C R : kb_M} (h : ki_V N C R) : kw_P N kz_BK_time kz_Model_time [] C R := kw_same h (cr_time R) (op_time h)
theorem ow_transfers {N : Nat} {C R : kb_M} (h : ki_V N C R) {b : Nat} (hb : b < 2) : kw_P N kz_BK_transfers kz_Model_transfers [.inl (nI b)] C R := kw_same h (cr_transfers R (nI b)) (op_transfers h hb)
theorem ow_free {N : Nat} {C R : kb_M} (h : ki_V N C R) {b : Nat} (hb : b < 2) : kw_P N kz_BK_free kz_Model_free [.inl (nI b)] C R := kw_same h (cr_free h.1.1 hb) (op_free h hb)
theorem ow_held {N : Nat} {C R : kb_M} (h : ki_V N C R) (v : Int32) {b : Nat} (hb : b < 2) : kw_P N kz_BK_held kz_Model_held [.inl v, .inl (nI b)] C R := kw_same h (cr_held h.1.1 v hb) (op_held h v hb)
theorem ow_losses {N : Nat} {C R : kb_M} (h : ki_V N C R) (v : Int32) : kw_P N kz_BK_losses kz_Model_losses [.inl v] C R := kw_same h (cr_losses v) (op_losses h v)
theorem ow_state {N : Nat} {C R : kb_M} (h : ki_V N C R) (u v : Int32) : kw_P N kz_BK_state kz_Model_state [.inl u, .inl v] C R := kw_same h (cr_state h.1.1 u v) (op_state h u v)
theorem ow_get {N : Nat} {C R : kb_M} (h : ki_V N C R) (u v i : Int32) : kw_P N kz_BK_get kz_Model_get [.inl u, .inl v, .inl i] C R := kw_same h (cr_get h.1.1 u v i) (op_get h u v i)
theorem kw_put (R : kb_M) (u v i w : Int32) : ∃ x, (kr_put R u v i w).1 = some (.inl x) := by
  unfold kr_put
  cases kr_lt R u v with
  | none => exact ⟨0, rfl⟩
  | some j =>
    by_cases hc : R 41 j = 0 ∧ 0 ≤ i ∧ i ≤ 3
    · exact ⟨1, by show (if _ then _ else _ : kb_R).1 = _; rw [if_pos hc]⟩
    · exact ⟨0, by show (if _ then _ else _ : kb_R).1 = _; rw [if_neg hc]⟩
theorem ow_put {N : Nat} {C R : kb_M} (h : ki_V N C R) (u v i w : Int32) : kw_P N kz_BK_put kz_Model_put [.inl u, .inl v, .inl i, .inl w] C R := kw_of0 (kw_put R u v i w) (cr_put h.1.1 u v i w) (op_put h u v i w)
theorem kw_rel (R : kb_M) (u v : Int32) : ∃ x, (kr_rel R u v).1 = some (.inl x) := by
  unfold kr_rel
  cases kr_lt R u v with
  | none => exact ⟨0, rfl⟩
  | some j => exact ⟨1, rfl⟩
theorem ow_release {N : Nat} {C R : kb_M} (h : ki_V N C R) (u v : Int32) : kw_P N kz_BK_release kz_Model_release [.inl u, .inl v] C R := kw_of0 (kw_rel R u v) (cr_release h.1.1 u v) (op_release h u v)
theorem kw_ask (R : kb_M) (u v : Int32) : ∃ x, (kr_ask R u v).1 = some (.inl x) := by
  unfold kr_ask
  cases kr_lt R u v with
  | none => exact ⟨0, rfl⟩
  | some j =>
    by_cases hc : R 42 j = 3
    · exact ⟨0, by show (if _ then _ else _ : kb_R).1 = _; rw [if_pos hc]⟩
    · exact ⟨1, by show (if _ then _ else _ : kb_R).1 = _; rw [if_neg hc]⟩
theorem ow_ask {N : Nat} {C R : kb_M} (h : ki_V N C R) (u v : Int32) : kw_P N kz_BK_ask kz_Model_ask [.inl u, .inl v] C R := kw_of0 (kw_ask R u v) (cr_ask h.1.1 u v) (op_ask h u v)
theorem kw_copy (R : kb_M) (u v w : Int32) : ∃ x, (kr_copy R u v w).1 = some (.inl x) := by
  unfold kr_copy
  cases kr_lt R u v with
  | none => exact ⟨0, rfl⟩
  | some j =>
    cases kr_lt R u w with
    | none => exact ⟨0, rfl⟩
    | some k =>
      by_cases hc : R 41 j = R 41 k
      · exact ⟨0, by show (if _ then _ else _ : kb_R).1 = _; rw [if_pos hc]⟩
      · exact ⟨1, by show (if _ then _ else _ : kb_R).1 = _; rw [if_neg hc]⟩
theorem ow_copy {N : Nat} {C R : kb_M} (h : ki_V N C R) (u v w : Int32) : kw_P N kz_BK_copy kz_Model_copy [.inl u, .inl v, .inl w] C R := kw_of0 (kw_copy R u v w) (cr_copy h.1.1 u v w) (op_copy h u v w)
theorem kw_sq (R : kb_M) (a : Nat) : ∃ x, (kr_sq R a).1 = some (.inl x) := by
  unfold kr_sq
  by_cases hc : kr_fr R a = 0
  · exact ⟨0, by rw [if_pos hc]⟩
  · exact ⟨1, by rw [if_neg hc]⟩
theorem ow_squeeze {N : Nat} {C R : kb_M} (h : ki_V N C R) (u : Int32) : kw_P N kz_BK_squeeze kz_Model_squeeze [.inl u] C R := by
  by_cases hu : 0 ≤ u ∧ u ≤ 1
  · obtain ⟨a, ha, rfl⟩ := kr_app_of hu
    exact kw_of0 (kw_sq R a) (cr_squeeze h.1.1 ha) (op_squeeze h ha)
  · exact kw_same h (cr_squeeze_no hu) (op_squeeze_no hu)
theorem kw_bind (R : kb_M) (g b : Nat) : ∃ x, (kr_bind R g b).1 = some (.inl x) := by
  unfold kr_bind
  by_cases h1 : kr_bd R g = 60
  · exact ⟨-1, by rw [if_pos h1]⟩
  · rw [if_neg h1]
    by_cases h2 : kr_f R b = 0
    · rw [if_pos h2]
      by_cases h3 : 3 + 3 * b ≤ kr_l R g (nI b) (kr_bd R g)
      · exact ⟨-2, by rw [if_pos h3]⟩
      · exact ⟨-3, by rw [if_neg h3]⟩
    · exact ⟨_, by rw [if_neg h2]⟩
theorem ow_bind {N : Nat} {C R : kb_M} (h : ki_V N C R) (hN : N ≤ 600) (u : Int32) {b : Nat} (hb : b < 2) : kw_P N kz_BK_bind kz_Model_bind [.inl u, .inl (nI b)] C R := by
  by_cases hu : 2 ≤ u ∧ u ≤ 3
  · obtain ⟨g, hg, rfl⟩ := kr_gst hu
    exact kw_of0 (kw_bind R g b) (cr_bind h.1.1 hg hb) (op_bind h hN hg hb)
  · exact kw_same h (cr_bind_no hu (nI b)) (op_bind_no hu (nI b))
theorem kw_pass (R : kb_M) (n : Int32) : ∃ x, (kr_pass R n).1 = some (.inl x) := by
  unfold kr_pass
  by_cases hc : 1 ≤ n ∧ n ≤ 50
  · exact ⟨_, by rw [if_pos hc]⟩
  · exact ⟨-1, by rw [if_neg hc]⟩
theorem ow_pass {N : Nat} {C R : kb_M} (h : ki_V N C R) (hN : N ≤ 600) (n : Int32) : kw_P N kz_BK_pass kz_Model_pass [.inl n] C R := kw_of (kw_pass R n) (cr_pass h.1.1 n) (op_pass h hN n)
end
section
/-! constructors: what they share -/
theorem ku_RA {U : State} {c d : ClassId} {ty : FieldType} (h : va_RA U c ty) (k : va_RA U d ty) : c = d := by
  have nm : ∀ {x : ClassId}, va_RA U x ty → U.vm.findClass ("[" ++ ty.toString) = some x := by
    intro x hx
    cases ty with
    | object C => obtain ⟨_, _, _, _, _, h4⟩ := hx; exact h4
    | _ => exact hx
  exact Option.some.inj ((nm h).symm.trans (nm k))
theorem kn_getD (ad : Nat → Nat) (l : List (Option Nat)) : (fun j => (l.getD j none).map ad) = (fun j => (l.map (Option.map ad)).getD j none) := by
  funext j
  simp only [List.getD_eq_getElem?_getD, List.getElem?_map]
  cases l[j]? with
  | none => rfl
  | some x => rfl
theorem kt_BK : ∀ k, k < 2 → parseFieldDescriptor (F_BK k).2.2.1 = some (t_BK k) := by decide +kernel
theorem kt_Kernel : ∀ k, k < 5 → parseFieldDescriptor (F_Kernel k).2.2.1 = some (t_Kernel k) := by decide +kernel
theorem kt_Pool : ∀ k, k < 3 → parseFieldDescriptor (F_Pool k).2.2.1 = some (t_Pool k) := by decide +kernel
theorem kt_Guest : ∀ k, k < 8 → parseFieldDescriptor (F_Guest k).2.2.1 = some (t_Guest k) := by decide +kernel
theorem kt_App : ∀ k, k < 8 → parseFieldDescriptor (F_App k).2.2.1 = some (t_App k) := by decide +kernel
theorem kt_Slot : ∀ k, k < 4 → parseFieldDescriptor (F_Slot k).2.2.1 = some (t_Slot k) := by decide +kernel
theorem kt_Model : ∀ k, k < 14 → parseFieldDescriptor (F_Model k).2.2.1 = some (t_Model k) := by decide +kernel
theorem kf_BK : ∀ a, a < 2 → ∀ b, b < 2 → a ≠ b → (F_BK a).2.1 ≠ (F_BK b).2.1 := by decide +kernel
theorem kf_Kernel : ∀ a, a < 5 → ∀ b, b < 5 → a ≠ b → (F_Kernel a).2.1 ≠ (F_Kernel b).2.1 := by decide +kernel
theorem kf_Pool : ∀ a, a < 3 → ∀ b, b < 3 → a ≠ b → (F_Pool a).2.1 ≠ (F_Pool b).2.1 := by decide +kernel
theorem kf_Guest : ∀ a, a < 8 → ∀ b, b < 8 → a ≠ b → (F_Guest a).2.1 ≠ (F_Guest b).2.1 := by decide +kernel
theorem kf_App : ∀ a, a < 8 → ∀ b, b < 8 → a ≠ b → (F_App a).2.1 ≠ (F_App b).2.1 := by decide +kernel
theorem kf_Slot : ∀ a, a < 4 → ∀ b, b < 4 → a ≠ b → (F_Slot a).2.1 ≠ (F_Slot b).2.1 := by decide +kernel
theorem kf_Model : ∀ a, a < 14 → ∀ b, b < 14 → a ≠ b → (F_Model a).2.1 ≠ (F_Model b).2.1 := by decide +kernel
/-- the words of a constructor -/
def kn_wo (y : MethodName) (b : ByteArray) (n : Nat) : List Cond := .code y b n none :: kb_all
theorem kn_good {y z : MethodName} {b d : ByteArray} {n k : Nat} (h : Cond.code z d k none ∈ kb_all) : GoodIn (kn_wo y b n) (kn_wo z d k) := by
  intro w hw
  rcases List.mem_cons.mp hw with rfl | hw
  · exact ⟨List.mem_cons_of_mem _ h, good_of_word (List.mem_filter.mp h).2⟩
  · exact ⟨List.mem_cons_of_mem _ hw, good_of_word (List.mem_filter.mp hw).2⟩
/-- what stands before a constructor: its cells wc, the classes, and a few words ex -/
def kn_pre (D : va_G) (cA : Nat → ClassId) (wc : va_W) (ex : State → Prop) (sz : Nat) : State → Prop := fun U => U.heap.size = sz ∧ va_P D kb_cl wc U.heap ∧ va_K D kb_cl (kb_ty cA) U ∧ va_D (fun _ => True) wc ∧ ex U
/-- and behind it -/
def kn_Q (D : va_G) (cA : Nat → ClassId) (w1 : (Nat → Nat) → va_W) (A : Nat → Prop) : Array Value → State → Outcome → State → Prop := va_Qv (fun _ : Nat → Nat => True) (fun u t => va_P D kb_cl (w1 u) t.heap ∧ va_K D kb_cl (kb_ty cA) t ∧ va_D A (w1 u)) A
abbrev kn_M (l : Launch) (y : MethodName) (b : ByteArray) (n : Nat) (rm : Room) (D : va_G) (cA : Nat → ClassId) (av : List Value) (wc : va_W) (ex : State → Prop) (w1 : (Nat → Nat) → va_W) (sz mc ms : Nat) : Prop := Met l y (kn_wo y b n) rm (va_Pc av (kn_pre D cA wc ex sz)) (kn_Q D cA w1 (va_A wc sz)) mc ms (va_A wc sz)
theorem kn_Psub {D : va_G} {cl : List vw_C} {ws wc : va_W} {H : Heap} (h : va_P D cl ws H) (is : List Nat) (hC : is.map (fun i => ws[i]?) = wc.map some) : va_P D cl wc H := by
  intro k q hk
  have h1 : (is.map (fun i => ws[i]?))[k]? = some (some q) := by rw [hC, List.getElem?_map, hk]; rfl
  rw [List.getElem?_map] at h1
  cases hi : is[k]? with
  | none => rw [hi] at h1; cases h1
  | some i => rw [hi] at h1; exact h i q (Option.some.inj h1)
/-- words that no call takes away -/
def kn_ex (ex : State → Prop) : Prop := (∀ (U : State) (g : JFrame) (mk : MethodId) (a : Array Value), ex U → ex (U.calling g mk a)) ∧ ∀ s U : State, s.WarmedH U.vm → ex s → ex U
theorem kn_ex0 : kn_ex (fun _ => True) := ⟨fun _ _ _ _ _ => trivial, fun _ _ _ _ => trivial⟩
theorem kn_preS {D : va_G} {cA : Nat → ClassId} {ws wc : va_W} {ex : State → Prop} {A : Nat → Prop} {s : State} {H : Heap} (he : kn_ex ex) (hs : ex s) (hP : va_P D kb_cl ws H) (hD : va_D A ws) (hK : va_K D kb_cl (kb_ty cA) s) (av : List Value) (isC : List Nat) (hC : isC.map (fun i => ws[i]?) = wc.map some) (hn : va_nd isC = true) : PreS s H (va_Pc av (kn_pre D cA wc ex H.size)) av := by
  refine ⟨fun a U g mk q => ?_, fun U hU hW => ⟨rfl, by rw [hU], by rw [hU]; exact kn_Psub hP isC hC, va_K.moved hW.alike hK, (hD.sub isC hn hC).weaken (fun _ _ _ _ => trivial), he.2 s U hW hs⟩⟩
  obtain ⟨q0, q1, qP, qK, qD, qE⟩ := q
  exact ⟨q0, q1, qP, va_K.moved (u := U) (U := U.calling g mk a) (Vm.Alike.refl U.vm) qK, qD, he.1 U g mk a qE⟩
section KN
variable {p : Program} {l : Launch} {e : Env} {R : Room} {s : State} {m : MethodId} {args : Array Value} {below : List Frame} {meth : Method} {c : Code} {H H0 : Heap} {locs : List Loc} {cells slots mc ms : Nat} {Q : State → Prop} {pc : Nat} {ls : Array Slot} {rest st0 : List Value} {a : Array Value} {A : Nat → Prop} {D : va_G} {cA : Nat → ClassId} {ws wc wr : va_W} {w1 : (Nat → Nat) → va_W}
/-- behind a call of a constructor -/
theorem kn_back (hr : va_Run p l e R s m args below meth c H locs cells slots mc ms (F0 m pc ls st0) rest (kn_Q D cA w1 (va_A wc H.size) a) (va_A wc H.size)) (hP : va_P D kb_cl ws H) (hD : va_D A ws) (hS : va_S A H0 H locs) (hA : ∀ q, H0.size ≤ q → A q) (isC isR : List Nat) (hC : isC.map (fun i => ws[i]?) = wc.map some) (hR : isR.map (fun i => ws[i]?) = wr.map some) (hn : va_nd isR = true) (hdis : ∀ i ∈ isR, i ∉ isC)
    (kk : ∀ (u : Nat → Nat) (H1 : Heap) (locs1 : List Loc), va_P D kb_cl (wr ++ w1 u) H1 → va_D A (wr ++ w1 u) → va_S A H0 H1 locs1 → W p l e R s m args below meth c H1 locs1 (cells + mc) (slots + ms) Q (F0 m (pc + 3) ls rest)) : W p l e R s m args below meth c H locs cells slots Q (F0 m pc ls st0) := by
  have hFc := va_free hD hS hA isC hC
  refine va_callv hr hS (fun q _ h => hFc q h) hFc (fun u t H1 locs1 ht hvm _ hB hz1 hk1 hS1 => ?_)
  obtain ⟨hP1, -, hD1⟩ := hB
  rw [ht] at hP1
  obtain ⟨hP2, hD2⟩ := va_join (wc := wc) hP hD isC isR hC hR hn hdis hk1 hFc hP1 hD1
  exact kk u H1 locs1 hP2 hD2 hS1
/-- a new array of ints or booleans: its class is the one that is known -/
theorem kn_newa (hexec : p.tables.exec = Jvm.exec) {cc : ByteArray} (hb : c.code = cc) {atype : ArrayType} (harr : (Cond.arrayClass (newarray.typeOf atype)).before args s = true) {ty : FieldType} (hty : newarray.typeOf atype = ty) (hK : va_K D kb_cl (kb_ty cA) s) (hP : va_P D kb_cl ws H) (hD : va_D A ws) (hS : va_S A H0 H locs) (hA : ∀ q, H0.size ≤ q → A q)
    {n : Int32} {N' : Nat} {f : Nat → Int32} (t0 : Nat) (ht : (kb_ty cA)[t0]? = some (cA t0, ty)) (ha : ∀ cA : ClassId, vp_cell cA (N', .inl f) = arrV cA N' (fun _ => defaultValue ty)) (hn : ¬ n < 0) (hN : n.toNatClampNeg = N') (hbytes : N' * componentBytes ty ≤ 536870912) (hcells : cells + 1 ≤ R.cells) (hslots : slots + N' ≤ R.slots) (hdg : decode cc pc = .ok (.newarray atype, 2))
    (kk : ∀ (q : Nat) (H1 : Heap), va_P D kb_cl (ws ++ [(q, .inl (cA t0, N', .inl f))]) H1 → va_D A (ws ++ [(q, .inl (cA t0, N', .inl f))]) → va_S A H0 H1 locs →
      W p l e R s m args below meth c H1 locs (cells + 1) (slots + N') Q (F0 m (pc + 2) ls (.ref q :: rest))) : W p l e R s m args below meth c H locs cells slots Q (F0 m pc ls (.int n :: rest)) := by
  refine va_newa hexec hb harr hty hK hP hD hS hA ha hn hN hbytes hcells hslots hdg (fun q cX H1 hK1 hP1 hD1 hS1 => ?_)
  have e : cX = cA t0 := ku_RA (hK1.2 4 (cX, ty) rfl).2 (hK.2 t0 _ ht).2
  subst e
  exact kk q H1 hP1 hD1 hS1
/-- a new array of references -/
theorem kn_newq (hexec : p.tables.exec = Jvm.exec) {cc : ByteArray} (hb : c.code = cc) {own C : String} {index : Nat} (hown : s.vm.findClass own = some m.cls) (hclink : (Cond.classLink own index C).before args s = true) (hover : va_AO C s) (hK : va_K D kb_cl (kb_ty cA) s) (hP : va_P D kb_cl ws H) (hD : va_D A ws) (hS : va_S A H0 H locs) (hA : ∀ q, H0.size ≤ q → A q)
    {n : Int32} {N' : Nat} (t0 : Nat) (ht : (kb_ty cA)[t0]? = some (cA t0, .object C)) (hn : ¬ n < 0) (hN : n.toNatClampNeg = N') (hbytes : N' * 4 ≤ 536870912) (hcells : cells + 1 ≤ R.cells) (hslots : slots + N' ≤ R.slots) (hdg : decode cc pc = .ok (.anewarray index, 3))
    (kk : ∀ (q : Nat) (H1 : Heap), va_P D kb_cl (ws ++ [(q, .inl (cA t0, N', .inr (.inr (.inr (.inr (fun _ => none))))))]) H1 → va_D A (ws ++ [(q, .inl (cA t0, N', .inr (.inr (.inr (.inr (fun _ => none))))))]) → va_S A H0 H1 locs →
      W p l e R s m args below meth c H1 locs (cells + 1) (slots + N') Q (F0 m (pc + 3) ls (.ref q :: rest))) : W p l e R s m args below meth c H locs cells slots Q (F0 m pc ls (.int n :: rest)) := by
  refine va_newq hexec hb hown hclink hover hK hP hD hS hA hn hN hbytes hcells hslots hdg (fun q cX H1 hK1 hP1 hD1 hS1 => ?_)
  have e : cX = cA t0 := ku_RA (hK1.2 4 (cX, .object C) rfl).2 (hK.2 t0 _ ht).2
  subst e
  exact kk q H1 hP1 hD1 hS1
end KN
end
section
/-! Arrays.fill -/
abbrev bn_fill : ByteArray := prog_11_method_103_code
def yn_fill : MethodName := ⟨"java/util/Arrays", "fill", "([II)V"⟩
theorem dn_fill_0 : decode bn_fill 0 = .ok (.iconst 0, 1) := by decide +kernel
theorem dn_fill_1 : decode bn_fill 1 = .ok (.istore_n 2, 1) := by decide +kernel
theorem dn_fill_2 : decode bn_fill 2 = .ok (.aload_n 0, 1) := by decide +kernel
theorem dn_fill_3 : decode bn_fill 3 = .ok (.arraylength, 1) := by decide +kernel
theorem dn_fill_4 : decode bn_fill 4 = .ok (.istore_n 3, 1) := by decide +kernel
theorem dn_fill_5 : decode bn_fill 5 = .ok (.iload_n 2, 1) := by decide +kernel
theorem dn_fill_6 : decode bn_fill 6 = .ok (.iload_n 3, 1) := by decide +kernel
theorem dn_fill_7 : decode bn_fill 7 = .ok (.if_icmp .ge (13), 3) := by decide +kernel
theorem dn_fill_10 : decode bn_fill 10 = .ok (.aload_n 0, 1) := by decide +kernel
theorem dn_fill_11 : decode bn_fill 11 = .ok (.iload_n 2, 1) := by decide +kernel
theorem dn_fill_12 : decode bn_fill 12 = .ok (.iload_n 1, 1) := by decide +kernel
theorem dn_fill_13 : decode bn_fill 13 = .ok (.iastore, 1) := by decide +kernel
theorem dn_fill_14 : decode bn_fill 14 = .ok (.iinc 2 (1), 3) := by decide +kernel
theorem dn_fill_17 : decode bn_fill 17 = .ok (.goto (-12), 3) := by decide +kernel
theorem dn_fill_20 : decode bn_fill 20 = .ok (.return_, 1) := by decide +kernel
theorem kn_fup (n i : Nat) (x : Int32) (f : Nat → Int32) : upd (fun j => if j < i then x else f j) i x = fun j => if j < i + 1 then x else f j := by
  funext j
  unfold upd
  by_cases h : j = i
  · subst h
    rw [if_pos rfl, if_pos (by omega)]
  · rw [if_neg h]
    show (if j < i then x else f j) = _
    by_cases h2 : j < i
    · rw [if_pos h2, if_pos (by omega)]
    · rw [if_neg h2, if_neg (by omega)]
set_option maxHeartbeats 4000000 in
set_option maxRecDepth 100000 in
/-- the first n ints of an array become x -/
theorem kn_fill (l : Launch) (D : va_G) (cA : Nat → ClassId) (a n : Nat) (f : Nat → Int32) (x : Int32) (sz : Nat) (hn : n < 1000) : kn_M l yn_fill bn_fill 4 ({ frames := 0, cells := 0, slots := 0, locals := 0 }) D cA [.ref a, .int x] [(a, .inl (cA 0, n, .inl f))] (fun _ => True) (fun _ => [(a, .inl (cA 0, n, .inl (fun j => if j < n then x else f j)))]) sz 0 0 := by
  refine Met.ofW (cc := bn_fill) (maxL := 4) (ret := none) (by decide) rfl ?_
  intro p e s m args below meth c s₁ B hml hv
  obtain ⟨rfl, hsz, hP, hK, hD0, -⟩ := hv
  have hx := B.exec
  have hb := B.bytes
  have hr := B.returns
  have hlocks := B.notSynchronized
  subst hsz
  have hD := hD0.self (sz := s.heap.size)
  generalize hAe : va_A [(a, .inl (cA 0, n, .inl f))] s.heap.size = A at hD ⊢
  have hS : va_S A s.heap s.heap [] := va_S.rf
  have hAa : A a := hD.2 0 _ rfl
  have hl := lv_entry ([.ref a, .int x]) (n := 4) (Nat.le_of_ble_eq_true rfl)
  rw [lg_entry_eq]
  generalize (lg_sl ([.ref a, .int x]) ++ List.replicate (4 - (lg_sl ([.ref a, .int x])).length) Slot.unset).toArray = ls at hl ⊢
  have hl : lv_has ls 4 [(0, .ref a), (1, .int x)] := hl
  have loop : ∀ (k i : Nat) (v : Int32) (ls : Array Slot) (H : Heap) (locs : List Loc), i + k = n → v = nI i → lv_has ls 4 [(3, .int (nI n)), (2, .int v), (0, .ref a), (1, .int x)] → va_P D kb_cl [(a, .inl (cA 0, n, .inl (fun j => if j < i then x else f j)))] H → va_S A s.heap H locs →
      W p l e (headSpec (kn_wo yn_fill bn_fill 4) { frames := 0, cells := 0, slots := 0, locals := 0 }).room s m #[Value.ref a, Value.int x] below meth c H locs 0 0 (MQ below (kn_Q D cA (fun _ => [(a, .inl (cA 0, n, .inl (fun j => if j < n then x else f j)))]) A) #[Value.ref a, Value.int x] s 0 0 A) (F0 m 5 ls []) := by
    intro k
    induction k with
    | zero =>
      intro i v ls H locs hi hv hl hP hS
      subst hv
      have hi : i = n := by omega
      subst hi
      refine lv_iload_n hx hb dn_fill_5 rfl (lv_at hl 1 rfl) ?_
      refine lv_iload_n hx hb dn_fill_6 rfl (lv_at hl 0 rfl) ?_
      refine lv_icmp_ge (tgt := 20) hx hb dn_fill_7 (by decide) (fun _ => ?_) (fun h => absurd (Int32.le_refl _) h)
      exact W.vret hx hb hr (fun t ht hW => ⟨⟨fun _ => 0, rfl, trivial, by rw [ht]; exact hP, va_K.moved hW.alike hK, ⟨fun i j p q hp hq _ => by
        have h1 := (List.getElem?_eq_some_iff.mp hp).1
        have h2 := (List.getElem?_eq_some_iff.mp hq).1
        simp only [List.length_cons, List.length_nil] at h1 h2
        omega, fun k q hk => by
        have h1 := (List.getElem?_eq_some_iff.mp hk).1
        simp only [List.length_cons, List.length_nil] at h1
        have e : k = 0 := by omega
        subst e
        cases hk
        exact hAa⟩⟩, hS.F ht⟩) hS.2.2 dn_fill_20
    | succ k ih =>
      intro i v ls H locs hi hv hl hP hS
      subst hv
      refine lv_iload_n hx hb dn_fill_5 rfl (lv_at hl 1 rfl) ?_
      refine lv_iload_n hx hb dn_fill_6 rfl (lv_at hl 0 rfl) ?_
      refine lv_icmp_ge (tgt := 20) hx hb dn_fill_7 (by decide) (fun h => ?_) (fun _ => ?_)
      · rw [nI_leI (by omega) (by omega)] at h
        omega
      have hD : va_D A [(a, .inl (cA 0, n, .inl (fun j => if j < i then x else f j)))] := ⟨fun i j p q hp hq _ => by
        have h1 := (List.getElem?_eq_some_iff.mp hp).1
        have h2 := (List.getElem?_eq_some_iff.mp hq).1
        simp only [List.length_cons, List.length_nil] at h1 h2
        omega, fun k q hk => by
        have h1 := (List.getElem?_eq_some_iff.mp hk).1
        simp only [List.length_cons, List.length_nil] at h1
        have e : k = 0 := by omega
        subst e
        cases hk
        exact hAa⟩
      refine lv_aload_n hx hb dn_fill_10 rfl (lv_at hl 2 rfl) ?_
      refine lv_iload_n hx hb dn_fill_11 rfl (lv_at hl 1 rfl) ?_
      refine lv_iload_n hx hb dn_fill_12 rfl (lv_at hl 3 rfl) ?_
      have hcl : (nI i).toNatClampNeg = i := nI_clamp (by omega)
      refine va_iast hx hb hK hP hD hS 0 0 rfl rfl (show vp_in (nI i) n from fun q => by
        rcases q with q | q
        · exact nI_pos (by omega) q
        · rw [hcl] at q
          omega) dn_fill_13 (fun H1 locs1 hP1 _ hS1 => ?_)
      have hP1 : va_P D kb_cl [(a, .inl (cA 0, n, .inl (upd (fun j => if j < i then x else f j) (nI i).toNatClampNeg x)))] H1 := hP1
      rw [hcl, kn_fup n] at hP1
      refine lv_iinc (k := 1) (v := nI (i + 1)) hx hb dn_fill_14 hl rfl (nI_succ i).symm (by decide) rfl (fun ls1 hl1 => ?_)
      have hl1 : lv_has ls1 4 [(2, .int (nI (i + 1))), (3, .int (nI n)), (0, .ref a), (1, .int x)] := hl1
      refine lv_goto (tgt := 5) hx hb dn_fill_17 (by decide) ?_
      exact ih (i + 1) _ ls1 H1 locs1 (by omega) rfl (lv_sub hl1 [1, 0, 2, 3] rfl) hP1 hS1
  refine lv_iconst (v := 0) hx hb dn_fill_0 (by decide) ?_
  refine lv_istore_n (i := 2) hx hb dn_fill_1 rfl hl (by decide) rfl (fun ls hl => ?_)
  have hl : lv_has ls 4 [(2, .int 0), (0, .ref a), (1, .int x)] := hl
  refine lv_aload_n hx hb dn_fill_2 rfl (lv_at hl 1 rfl) ?_
  refine va_alen (v := nI n) hx hb hK hP 0 0 rfl rfl rfl dn_fill_3 ?_
  refine lv_istore_n (i := 3) hx hb dn_fill_4 rfl hl (by decide) rfl (fun ls hl => ?_)
  have hl : lv_has ls 4 [(3, .int (nI n)), (2, .int 0), (0, .ref a), (1, .int x)] := hl
  exact loop n 0 0 ls s.heap [] (by omega) rfl hl hP hS
end
section
/-! the constructors: names, codes, instructions (printed by wip/whole/gen_news.py) -/
abbrev bn_BK : ByteArray := prog_1_method_1_code
def yn_BK : MethodName := ⟨R_BK, "<init>", "()V"⟩
theorem dn_BK_0 : decode bn_BK 0 = .ok (.aload_n 0, 1) := by decide +kernel
theorem dn_BK_1 : decode bn_BK 1 = .ok (.invokespecial 3, 3) := by decide +kernel
theorem dn_BK_4 : decode bn_BK 4 = .ok (.aload_n 0, 1) := by decide +kernel
theorem dn_BK_5 : decode bn_BK 5 = .ok (.new 9, 3) := by decide +kernel
theorem dn_BK_8 : decode bn_BK 8 = .ok (.dup, 1) := by decide +kernel
theorem dn_BK_9 : decode bn_BK 9 = .ok (.invokespecial 11, 3) := by decide +kernel
theorem dn_BK_12 : decode bn_BK 12 = .ok (.putfield 12, 3) := by decide +kernel
theorem dn_BK_15 : decode bn_BK 15 = .ok (.aload_n 0, 1) := by decide +kernel
theorem dn_BK_16 : decode bn_BK 16 = .ok (.iconst 2, 1) := by decide +kernel
theorem dn_BK_17 : decode bn_BK 17 = .ok (.anewarray 16, 3) := by decide +kernel
theorem dn_BK_20 : decode bn_BK 20 = .ok (.putfield 18, 3) := by decide +kernel
theorem dn_BK_23 : decode bn_BK 23 = .ok (.iconst 0, 1) := by decide +kernel
theorem dn_BK_24 : decode bn_BK 24 = .ok (.istore_n 1, 1) := by decide +kernel
theorem dn_BK_25 : decode bn_BK 25 = .ok (.iload_n 1, 1) := by decide +kernel
theorem dn_BK_26 : decode bn_BK 26 = .ok (.iconst 2, 1) := by decide +kernel
theorem dn_BK_27 : decode bn_BK 27 = .ok (.if_icmp .ge (27), 3) := by decide +kernel
theorem dn_BK_30 : decode bn_BK 30 = .ok (.aload_n 0, 1) := by decide +kernel
theorem dn_BK_31 : decode bn_BK 31 = .ok (.getfield 18, 3) := by decide +kernel
theorem dn_BK_34 : decode bn_BK 34 = .ok (.iload_n 1, 1) := by decide +kernel
theorem dn_BK_35 : decode bn_BK 35 = .ok (.new 16, 3) := by decide +kernel
theorem dn_BK_38 : decode bn_BK 38 = .ok (.dup, 1) := by decide +kernel
theorem dn_BK_39 : decode bn_BK 39 = .ok (.aload_n 0, 1) := by decide +kernel
theorem dn_BK_40 : decode bn_BK 40 = .ok (.getfield 12, 3) := by decide +kernel
theorem dn_BK_43 : decode bn_BK 43 = .ok (.iload_n 1, 1) := by decide +kernel
theorem dn_BK_44 : decode bn_BK 44 = .ok (.invokespecial 22, 3) := by decide +kernel
theorem dn_BK_47 : decode bn_BK 47 = .ok (.aastore, 1) := by decide +kernel
theorem dn_BK_48 : decode bn_BK 48 = .ok (.iinc 1 (1), 3) := by decide +kernel
theorem dn_BK_51 : decode bn_BK 51 = .ok (.goto (-26), 3) := by decide +kernel
theorem dn_BK_54 : decode bn_BK 54 = .ok (.return_, 1) := by decide +kernel
abbrev bn_Model : ByteArray := prog_8_method_1_code
def yn_Model : MethodName := ⟨R_Model, "<init>", "()V"⟩
theorem dn_Model_0 : decode bn_Model 0 = .ok (.aload_n 0, 1) := by decide +kernel
theorem dn_Model_1 : decode bn_Model 1 = .ok (.invokespecial 1, 3) := by decide +kernel
theorem dn_Model_4 : decode bn_Model 4 = .ok (.aload_n 0, 1) := by decide +kernel
theorem dn_Model_5 : decode bn_Model 5 = .ok (.sipush 288, 3) := by decide +kernel
theorem dn_Model_8 : decode bn_Model 8 = .ok (.newarray .int, 2) := by decide +kernel
theorem dn_Model_10 : decode bn_Model 10 = .ok (.putfield 7, 3) := by decide +kernel
theorem dn_Model_13 : decode bn_Model 13 = .ok (.aload_n 0, 1) := by decide +kernel
theorem dn_Model_14 : decode bn_Model 14 = .ok (.bipush 12, 2) := by decide +kernel
theorem dn_Model_16 : decode bn_Model 16 = .ok (.newarray .int, 2) := by decide +kernel
theorem dn_Model_18 : decode bn_Model 18 = .ok (.putfield 13, 3) := by decide +kernel
theorem dn_Model_21 : decode bn_Model 21 = .ok (.aload_n 0, 1) := by decide +kernel
theorem dn_Model_22 : decode bn_Model 22 = .ok (.bipush 6, 2) := by decide +kernel
theorem dn_Model_24 : decode bn_Model 24 = .ok (.newarray .int, 2) := by decide +kernel
theorem dn_Model_26 : decode bn_Model 26 = .ok (.putfield 16, 3) := by decide +kernel
theorem dn_Model_29 : decode bn_Model 29 = .ok (.aload_n 0, 1) := by decide +kernel
theorem dn_Model_30 : decode bn_Model 30 = .ok (.bipush 6, 2) := by decide +kernel
theorem dn_Model_32 : decode bn_Model 32 = .ok (.newarray .boolean, 2) := by decide +kernel
theorem dn_Model_34 : decode bn_Model 34 = .ok (.putfield 19, 3) := by decide +kernel
theorem dn_Model_37 : decode bn_Model 37 = .ok (.aload_n 0, 1) := by decide +kernel
theorem dn_Model_38 : decode bn_Model 38 = .ok (.iconst 2, 1) := by decide +kernel
theorem dn_Model_39 : decode bn_Model 39 = .ok (.newarray .int, 2) := by decide +kernel
theorem dn_Model_41 : decode bn_Model 41 = .ok (.putfield 23, 3) := by decide +kernel
theorem dn_Model_44 : decode bn_Model 44 = .ok (.aload_n 0, 1) := by decide +kernel
theorem dn_Model_45 : decode bn_Model 45 = .ok (.iconst 2, 1) := by decide +kernel
theorem dn_Model_46 : decode bn_Model 46 = .ok (.newarray .int, 2) := by decide +kernel
theorem dn_Model_48 : decode bn_Model 48 = .ok (.putfield 26, 3) := by decide +kernel
theorem dn_Model_51 : decode bn_Model 51 = .ok (.aload_n 0, 1) := by decide +kernel
theorem dn_Model_52 : decode bn_Model 52 = .ok (.iconst 2, 1) := by decide +kernel
theorem dn_Model_53 : decode bn_Model 53 = .ok (.newarray .int, 2) := by decide +kernel
theorem dn_Model_55 : decode bn_Model 55 = .ok (.putfield 29, 3) := by decide +kernel
theorem dn_Model_58 : decode bn_Model 58 = .ok (.aload_n 0, 1) := by decide +kernel
theorem dn_Model_59 : decode bn_Model 59 = .ok (.bipush 120, 2) := by decide +kernel
theorem dn_Model_61 : decode bn_Model 61 = .ok (.newarray .boolean, 2) := by decide +kernel
theorem dn_Model_63 : decode bn_Model 63 = .ok (.putfield 32, 3) := by decide +kernel
theorem dn_Model_66 : decode bn_Model 66 = .ok (.aload_n 0, 1) := by decide +kernel
theorem dn_Model_67 : decode bn_Model 67 = .ok (.bipush 120, 2) := by decide +kernel
theorem dn_Model_69 : decode bn_Model 69 = .ok (.newarray .int, 2) := by decide +kernel
theorem dn_Model_71 : decode bn_Model 71 = .ok (.putfield 35, 3) := by decide +kernel
theorem dn_Model_74 : decode bn_Model 74 = .ok (.aload_n 0, 1) := by decide +kernel
theorem dn_Model_75 : decode bn_Model 75 = .ok (.bipush 120, 2) := by decide +kernel
theorem dn_Model_77 : decode bn_Model 77 = .ok (.newarray .int, 2) := by decide +kernel
theorem dn_Model_79 : decode bn_Model 79 = .ok (.putfield 38, 3) := by decide +kernel
theorem dn_Model_82 : decode bn_Model 82 = .ok (.aload_n 0, 1) := by decide +kernel
theorem dn_Model_83 : decode bn_Model 83 = .ok (.sipush 480, 3) := by decide +kernel
theorem dn_Model_86 : decode bn_Model 86 = .ok (.newarray .int, 2) := by decide +kernel
theorem dn_Model_88 : decode bn_Model 88 = .ok (.putfield 41, 3) := by decide +kernel
theorem dn_Model_91 : decode bn_Model 91 = .ok (.return_, 1) := by decide +kernel
abbrev bn_App : ByteArray := prog_2_method_1_code
def yn_App : MethodName := ⟨R_App, "<init>", "(LBindingKernel$Kernel;I)V"⟩
theorem dn_App_0 : decode bn_App 0 = .ok (.aload_n 0, 1) := by decide +kernel
theorem dn_App_1 : decode bn_App 1 = .ok (.invokespecial 3, 3) := by decide +kernel
theorem dn_App_4 : decode bn_App 4 = .ok (.aload_n 0, 1) := by decide +kernel
theorem dn_App_5 : decode bn_App 5 = .ok (.bipush 6, 2) := by decide +kernel
theorem dn_App_7 : decode bn_App 7 = .ok (.newarray .int, 2) := by decide +kernel
theorem dn_App_9 : decode bn_App 9 = .ok (.putfield 9, 3) := by decide +kernel
theorem dn_App_12 : decode bn_App 12 = .ok (.aload_n 0, 1) := by decide +kernel
theorem dn_App_13 : decode bn_App 13 = .ok (.bipush 36, 2) := by decide +kernel
theorem dn_App_15 : decode bn_App 15 = .ok (.newarray .int, 2) := by decide +kernel
theorem dn_App_17 : decode bn_App 17 = .ok (.putfield 15, 3) := by decide +kernel
theorem dn_App_20 : decode bn_App 20 = .ok (.aload_n 0, 1) := by decide +kernel
theorem dn_App_21 : decode bn_App 21 = .ok (.iconst 3, 1) := by decide +kernel
theorem dn_App_22 : decode bn_App 22 = .ok (.anewarray 18, 3) := by decide +kernel
theorem dn_App_25 : decode bn_App 25 = .ok (.putfield 20, 3) := by decide +kernel
theorem dn_App_28 : decode bn_App 28 = .ok (.aload_n 0, 1) := by decide +kernel
theorem dn_App_29 : decode bn_App 29 = .ok (.aload_n 1, 1) := by decide +kernel
theorem dn_App_30 : decode bn_App 30 = .ok (.putfield 24, 3) := by decide +kernel
theorem dn_App_33 : decode bn_App 33 = .ok (.aload_n 0, 1) := by decide +kernel
theorem dn_App_34 : decode bn_App 34 = .ok (.iload_n 2, 1) := by decide +kernel
theorem dn_App_35 : decode bn_App 35 = .ok (.putfield 28, 3) := by decide +kernel
theorem dn_App_38 : decode bn_App 38 = .ok (.aload_n 0, 1) := by decide +kernel
theorem dn_App_39 : decode bn_App 39 = .ok (.getfield 15, 3) := by decide +kernel
theorem dn_App_42 : decode bn_App 42 = .ok (.iconst (-1), 1) := by decide +kernel
theorem dn_App_43 : decode bn_App 43 = .ok (.invokestatic 32, 3) := by decide +kernel
theorem dn_App_46 : decode bn_App 46 = .ok (.iconst 0, 1) := by decide +kernel
theorem dn_App_47 : decode bn_App 47 = .ok (.istore_n 3, 1) := by decide +kernel
theorem dn_App_48 : decode bn_App 48 = .ok (.iload_n 3, 1) := by decide +kernel
theorem dn_App_49 : decode bn_App 49 = .ok (.aload_n 0, 1) := by decide +kernel
theorem dn_App_50 : decode bn_App 50 = .ok (.getfield 20, 3) := by decide +kernel
theorem dn_App_53 : decode bn_App 53 = .ok (.arraylength, 1) := by decide +kernel
theorem dn_App_54 : decode bn_App 54 = .ok (.if_icmp .ge (22), 3) := by decide +kernel
theorem dn_App_57 : decode bn_App 57 = .ok (.aload_n 0, 1) := by decide +kernel
theorem dn_App_58 : decode bn_App 58 = .ok (.getfield 20, 3) := by decide +kernel
theorem dn_App_61 : decode bn_App 61 = .ok (.iload_n 3, 1) := by decide +kernel
theorem dn_App_62 : decode bn_App 62 = .ok (.new 18, 3) := by decide +kernel
theorem dn_App_65 : decode bn_App 65 = .ok (.dup, 1) := by decide +kernel
theorem dn_App_66 : decode bn_App 66 = .ok (.invokespecial 38, 3) := by decide +kernel
theorem dn_App_69 : decode bn_App 69 = .ok (.aastore, 1) := by decide +kernel
theorem dn_App_70 : decode bn_App 70 = .ok (.iinc 3 (1), 3) := by decide +kernel
theorem dn_App_73 : decode bn_App 73 = .ok (.goto (-25), 3) := by decide +kernel
theorem dn_App_76 : decode bn_App 76 = .ok (.return_, 1) := by decide +kernel
abbrev bn_Guest : ByteArray := prog_3_method_1_code
def yn_Guest : MethodName := ⟨R_Guest, "<init>", "(LBindingKernel$Pool;LBindingKernel$Pool;)V"⟩
theorem dn_Guest_0 : decode bn_Guest 0 = .ok (.aload_n 0, 1) := by decide +kernel
theorem dn_Guest_1 : decode bn_Guest 1 = .ok (.invokespecial 3, 3) := by decide +kernel
theorem dn_Guest_4 : decode bn_Guest 4 = .ok (.aload_n 0, 1) := by decide +kernel
theorem dn_Guest_5 : decode bn_Guest 5 = .ok (.bipush 60, 2) := by decide +kernel
theorem dn_Guest_7 : decode bn_Guest 7 = .ok (.newarray .boolean, 2) := by decide +kernel
theorem dn_Guest_9 : decode bn_Guest 9 = .ok (.putfield 9, 3) := by decide +kernel
theorem dn_Guest_12 : decode bn_Guest 12 = .ok (.aload_n 0, 1) := by decide +kernel
theorem dn_Guest_13 : decode bn_Guest 13 = .ok (.bipush 60, 2) := by decide +kernel
theorem dn_Guest_15 : decode bn_Guest 15 = .ok (.newarray .int, 2) := by decide +kernel
theorem dn_Guest_17 : decode bn_Guest 17 = .ok (.putfield 15, 3) := by decide +kernel
theorem dn_Guest_20 : decode bn_Guest 20 = .ok (.aload_n 0, 1) := by decide +kernel
theorem dn_Guest_21 : decode bn_Guest 21 = .ok (.bipush 60, 2) := by decide +kernel
theorem dn_Guest_23 : decode bn_Guest 23 = .ok (.newarray .int, 2) := by decide +kernel
theorem dn_Guest_25 : decode bn_Guest 25 = .ok (.putfield 19, 3) := by decide +kernel
theorem dn_Guest_28 : decode bn_Guest 28 = .ok (.aload_n 0, 1) := by decide +kernel
theorem dn_Guest_29 : decode bn_Guest 29 = .ok (.bipush 60, 2) := by decide +kernel
theorem dn_Guest_31 : decode bn_Guest 31 = .ok (.newarray .int, 2) := by decide +kernel
theorem dn_Guest_33 : decode bn_Guest 33 = .ok (.putfield 22, 3) := by decide +kernel
theorem dn_Guest_36 : decode bn_Guest 36 = .ok (.aload_n 0, 1) := by decide +kernel
theorem dn_Guest_37 : decode bn_Guest 37 = .ok (.aload_n 1, 1) := by decide +kernel
theorem dn_Guest_38 : decode bn_Guest 38 = .ok (.putfield 25, 3) := by decide +kernel
theorem dn_Guest_41 : decode bn_Guest 41 = .ok (.aload_n 0, 1) := by decide +kernel
theorem dn_Guest_42 : decode bn_Guest 42 = .ok (.aload_n 2, 1) := by decide +kernel
theorem dn_Guest_43 : decode bn_Guest 43 = .ok (.putfield 29, 3) := by decide +kernel
theorem dn_Guest_46 : decode bn_Guest 46 = .ok (.return_, 1) := by decide +kernel
abbrev bn_Kernel : ByteArray := prog_4_method_1_code
def yn_Kernel : MethodName := ⟨R_Kernel, "<init>", "()V"⟩
theorem dn_Kernel_0 : decode bn_Kernel 0 = .ok (.aload_n 0, 1) := by decide +kernel
theorem dn_Kernel_1 : decode bn_Kernel 1 = .ok (.invokespecial 3, 3) := by decide +kernel
theorem dn_Kernel_4 : decode bn_Kernel 4 = .ok (.aload_n 0, 1) := by decide +kernel
theorem dn_Kernel_5 : decode bn_Kernel 5 = .ok (.new 9, 3) := by decide +kernel
theorem dn_Kernel_8 : decode bn_Kernel 8 = .ok (.dup, 1) := by decide +kernel
theorem dn_Kernel_9 : decode bn_Kernel 9 = .ok (.bipush 12, 2) := by decide +kernel
theorem dn_Kernel_11 : decode bn_Kernel 11 = .ok (.iconst 3, 1) := by decide +kernel
theorem dn_Kernel_12 : decode bn_Kernel 12 = .ok (.invokespecial 11, 3) := by decide +kernel
theorem dn_Kernel_15 : decode bn_Kernel 15 = .ok (.putfield 14, 3) := by decide +kernel
theorem dn_Kernel_18 : decode bn_Kernel 18 = .ok (.aload_n 0, 1) := by decide +kernel
theorem dn_Kernel_19 : decode bn_Kernel 19 = .ok (.new 9, 3) := by decide +kernel
theorem dn_Kernel_22 : decode bn_Kernel 22 = .ok (.dup, 1) := by decide +kernel
theorem dn_Kernel_23 : decode bn_Kernel 23 = .ok (.bipush 24, 2) := by decide +kernel
theorem dn_Kernel_25 : decode bn_Kernel 25 = .ok (.bipush 6, 2) := by decide +kernel
theorem dn_Kernel_27 : decode bn_Kernel 27 = .ok (.invokespecial 11, 3) := by decide +kernel
theorem dn_Kernel_30 : decode bn_Kernel 30 = .ok (.putfield 20, 3) := by decide +kernel
theorem dn_Kernel_33 : decode bn_Kernel 33 = .ok (.aload_n 0, 1) := by decide +kernel
theorem dn_Kernel_34 : decode bn_Kernel 34 = .ok (.new 23, 3) := by decide +kernel
theorem dn_Kernel_37 : decode bn_Kernel 37 = .ok (.dup, 1) := by decide +kernel
theorem dn_Kernel_38 : decode bn_Kernel 38 = .ok (.aload_n 0, 1) := by decide +kernel
theorem dn_Kernel_39 : decode bn_Kernel 39 = .ok (.getfield 14, 3) := by decide +kernel
theorem dn_Kernel_42 : decode bn_Kernel 42 = .ok (.aload_n 0, 1) := by decide +kernel
theorem dn_Kernel_43 : decode bn_Kernel 43 = .ok (.getfield 20, 3) := by decide +kernel
theorem dn_Kernel_46 : decode bn_Kernel 46 = .ok (.invokespecial 25, 3) := by decide +kernel
theorem dn_Kernel_49 : decode bn_Kernel 49 = .ok (.putfield 28, 3) := by decide +kernel
theorem dn_Kernel_52 : decode bn_Kernel 52 = .ok (.aload_n 0, 1) := by decide +kernel
theorem dn_Kernel_53 : decode bn_Kernel 53 = .ok (.new 23, 3) := by decide +kernel
theorem dn_Kernel_56 : decode bn_Kernel 56 = .ok (.dup, 1) := by decide +kernel
theorem dn_Kernel_57 : decode bn_Kernel 57 = .ok (.aload_n 0, 1) := by decide +kernel
theorem dn_Kernel_58 : decode bn_Kernel 58 = .ok (.getfield 14, 3) := by decide +kernel
theorem dn_Kernel_61 : decode bn_Kernel 61 = .ok (.aload_n 0, 1) := by decide +kernel
theorem dn_Kernel_62 : decode bn_Kernel 62 = .ok (.getfield 20, 3) := by decide +kernel
theorem dn_Kernel_65 : decode bn_Kernel 65 = .ok (.invokespecial 25, 3) := by decide +kernel
theorem dn_Kernel_68 : decode bn_Kernel 68 = .ok (.putfield 32, 3) := by decide +kernel
theorem dn_Kernel_71 : decode bn_Kernel 71 = .ok (.return_, 1) := by decide +kernel
abbrev bn_Pool : ByteArray := prog_5_method_1_code
def yn_Pool : MethodName := ⟨R_Pool, "<init>", "(II)V"⟩
theorem dn_Pool_0 : decode bn_Pool 0 = .ok (.aload_n 0, 1) := by decide +kernel
theorem dn_Pool_1 : decode bn_Pool 1 = .ok (.invokespecial 3, 3) := by decide +kernel
theorem dn_Pool_4 : decode bn_Pool 4 = .ok (.aload_n 0, 1) := by decide +kernel
theorem dn_Pool_5 : decode bn_Pool 5 = .ok (.iload_n 2, 1) := by decide +kernel
theorem dn_Pool_6 : decode bn_Pool 6 = .ok (.putfield 9, 3) := by decide +kernel
theorem dn_Pool_9 : decode bn_Pool 9 = .ok (.aload_n 0, 1) := by decide +kernel
theorem dn_Pool_10 : decode bn_Pool 10 = .ok (.iload_n 1, 1) := by decide +kernel
theorem dn_Pool_11 : decode bn_Pool 11 = .ok (.newarray .int, 2) := by decide +kernel
theorem dn_Pool_13 : decode bn_Pool 13 = .ok (.putfield 15, 3) := by decide +kernel
theorem dn_Pool_16 : decode bn_Pool 16 = .ok (.aload_n 0, 1) := by decide +kernel
theorem dn_Pool_17 : decode bn_Pool 17 = .ok (.iload_n 1, 1) := by decide +kernel
theorem dn_Pool_18 : decode bn_Pool 18 = .ok (.iconst 4, 1) := by decide +kernel
theorem dn_Pool_19 : decode bn_Pool 19 = .ok (.imul, 1) := by decide +kernel
theorem dn_Pool_20 : decode bn_Pool 20 = .ok (.newarray .int, 2) := by decide +kernel
theorem dn_Pool_22 : decode bn_Pool 22 = .ok (.putfield 19, 3) := by decide +kernel
theorem dn_Pool_25 : decode bn_Pool 25 = .ok (.aload_n 0, 1) := by decide +kernel
theorem dn_Pool_26 : decode bn_Pool 26 = .ok (.getfield 15, 3) := by decide +kernel
theorem dn_Pool_29 : decode bn_Pool 29 = .ok (.iconst (-1), 1) := by decide +kernel
theorem dn_Pool_30 : decode bn_Pool 30 = .ok (.invokestatic 22, 3) := by decide +kernel
theorem dn_Pool_33 : decode bn_Pool 33 = .ok (.return_, 1) := by decide +kernel
abbrev bn_Slot : ByteArray := prog_6_method_1_code
def yn_Slot : MethodName := ⟨R_Slot, "<init>", "()V"⟩
theorem dn_Slot_0 : decode bn_Slot 0 = .ok (.aload_n 0, 1) := by decide +kernel
theorem dn_Slot_1 : decode bn_Slot 1 = .ok (.invokespecial 3, 3) := by decide +kernel
theorem dn_Slot_4 : decode bn_Slot 4 = .ok (.aload_n 0, 1) := by decide +kernel
theorem dn_Slot_5 : decode bn_Slot 5 = .ok (.iconst (-1), 1) := by decide +kernel
theorem dn_Slot_6 : decode bn_Slot 6 = .ok (.putfield 9, 3) := by decide +kernel
theorem dn_Slot_9 : decode bn_Slot 9 = .ok (.aload_n 0, 1) := by decide +kernel
theorem dn_Slot_10 : decode bn_Slot 10 = .ok (.iconst (-1), 1) := by decide +kernel
theorem dn_Slot_11 : decode bn_Slot 11 = .ok (.putfield 15, 3) := by decide +kernel
theorem dn_Slot_14 : decode bn_Slot 14 = .ok (.return_, 1) := by decide +kernel
theorem kn_up2 (a b : Nat) : va_up (va_up (fun _ => none) 0 (some a)) 1 (some b) = fun j => [some a, some b].getD j none := by
  funext j
  match j with
  | 0 => rfl
  | 1 => rfl
  | n + 2 => rfl
theorem kn_up3 (a b c : Nat) : va_up (va_up (va_up (fun _ => none) 0 (some a)) 1 (some b)) 2 (some c) = fun j => [some a, some b, some c].getD j none := by
  funext j
  match j with
  | 0 => rfl
  | 1 => rfl
  | 2 => rfl
  | n + 3 => rfl
/-- the words that an application's constructor wants beside the tables' -/
def kn_eA (U : State) : Prop := va_AO R_Slot U ∧ va_Nw (.methodLinkNest R_App 38 yn_Slot "BindingKernel") U
theorem kn_eA_ok : kn_ex kn_eA := ⟨fun U g mk a h => ⟨va_AO.moved (Vm.Alike.refl U.vm) h.1, va_tabs (u := U) rfl rfl h.2⟩, fun s U hW h => ⟨va_AO.moved hW.alike h.1, va_Nw.warmM hW h.2⟩⟩
def kn_eB (U : State) : Prop := kn_eA U ∧ va_AO R_App U ∧ va_Nw (.methodLinkNest R_BK 11 yn_Kernel "BindingKernel") U
theorem kn_eB_ok : kn_ex kn_eB := ⟨fun U g mk a h => ⟨kn_eA_ok.1 U g mk a h.1, va_AO.moved (Vm.Alike.refl U.vm) h.2.1, va_tabs (u := U) rfl rfl h.2.2⟩, fun s U hW h => ⟨kn_eA_ok.2 s U hW h.1, va_AO.moved hW.alike h.2.1, va_Nw.warmM hW h.2.2⟩⟩
end
section
/-! small constructors (printed by wip/whole/gen_news.py) -/
set_option maxHeartbeats 4000000 in
set_option maxRecDepth 100000 in
theorem kn_Slot (l : Launch) (D : va_G) (cA : Nat → ClassId) (h0 sz : Nat) : kn_M l yn_Slot bn_Slot 1 ({ frames := 1, cells := 0, slots := 0, locals := 12 }) D cA [.ref h0] [(h0, .inr (5, [.int 0, .int 0, .int 0, .int 0]))] (fun _ => True) (fun u => [(h0, .inr (5, [.int (-1), .int (-1), .int 0, .int 0]))]) sz 0 0 := by
  refine Met.ofW (cc := bn_Slot) (maxL := 1) (ret := none) (by decide) rfl ?_
  intro p e s m args below meth c s₁ B hml hv
  obtain ⟨rfl, hsz, hP, hK, hD0, hE⟩ := hv
  have hx := B.exec
  have hb := B.bytes
  have hr := B.returns
  have hts := atoms_spec (ws := kn_wo yn_Slot bn_Slot 1) B.pre
  have hw : ∀ w ∈ kb_all, w.before _ s = true := fun w h => hts w (List.mem_cons_of_mem _ h)
  have hown : s.vm.findClass R_Slot = some m.cls := findClass_of_methodNamed B.named
  have hlocks := B.notSynchronized
  have hin : meth.name = "<init>" := (name_of_methodNamed B.named B.method).1
  subst hsz
  have hD := hD0.self (sz := s.heap.size)
  generalize hAe : va_A [(h0, .inr (5, [.int 0, .int 0, .int 0, .int 0]))] s.heap.size = A at hD ⊢
  have hA : ∀ q : Nat, s.heap.size ≤ q → A q := fun q h => by rw [← hAe]; exact Or.inr h
  have hS : va_S A s.heap s.heap [] := va_S.rf
  have hl := lv_entry ([.ref h0]) (n := 1) (Nat.le_of_ble_eq_true rfl)
  rw [lg_entry_eq]
  generalize (lg_sl ([.ref h0]) ++ List.replicate (1 - (lg_sl ([.ref h0])).length) Slot.unset).toArray = ls at hl ⊢
  have hl : lv_has ls 1 [(0, .ref h0)] := hl
  refine lv_aload_n hx hb dn_Slot_0 rfl (lv_at hl 0 rfl) ?_
  refine W.objInit hx hb hown (hw (.methodLink R_Slot 3 Lib.objectInit) (kb_all_in (List.mem_of_getElem? (i := 148) rfl) rfl)) (hw (.instanceMethod Lib.objectInit) (kb_all_in (List.mem_of_getElem? (i := 54) rfl) rfl)) (hw (.code Lib.objectInit ⟨#[0xb1]⟩ 1 none) (kb_all_in (List.mem_of_getElem? (i := 55) rfl) rfl)) rfl (by rw [hml]; exact hl.1) rfl dn_Slot_1 (Nat.le_of_ble_eq_true rfl) (Nat.le_of_ble_eq_true rfl) ?_
  refine W.eq (g2 := F0 m 4 ls []) rfl ?_
  refine lv_aload_n hx hb dn_Slot_4 rfl (lv_at hl 0 rfl) ?_
  refine lv_iconst (v := -1) hx hb dn_Slot_5 (by decide) ?_
  refine va_put (D := D) (ci := 5) (v := .int (-1)) (ty := .int) (C := R_Slot) (T := F_Slot) (N := 4) hx hb hw u_Slot t_Slot kt_Slot kf_Slot hown hK hP hD hS 0 rfl rfl 0 (by decide) (hw (.fieldLink R_Slot 9 "BindingKernel$Slot" "frame" "I") (kb_all_in (List.mem_of_getElem? (i := 149) rfl) rfl)) (fun _ h9 => h9) rfl (by decide +kernel) rfl rfl (Nat.le_of_ble_eq_true rfl) dn_Slot_6 (fun H locs hP hD hS => ?_)
  have hP : va_P D kb_cl [(h0, .inr (5, [.int (-1), .int 0, .int 0, .int 0]))] H := hP
  have hD : va_D A [(h0, .inr (5, [.int (-1), .int 0, .int 0, .int 0]))] := hD
  refine lv_aload_n hx hb dn_Slot_9 rfl (lv_at hl 0 rfl) ?_
  refine lv_iconst (v := -1) hx hb dn_Slot_10 (by decide) ?_
  refine va_put (D := D) (ci := 5) (v := .int (-1)) (ty := .int) (C := R_Slot) (T := F_Slot) (N := 4) hx hb hw u_Slot t_Slot kt_Slot kf_Slot hown hK hP hD hS 0 rfl rfl 1 (by decide) (hw (.fieldLink R_Slot 15 "BindingKernel$Slot" "part" "I") (kb_all_in (List.mem_of_getElem? (i := 151) rfl) rfl)) (fun _ h9 => h9) rfl (by decide +kernel) rfl rfl (Nat.le_of_ble_eq_true rfl) dn_Slot_11 (fun H locs hP hD hS => ?_)
  have hP : va_P D kb_cl [(h0, .inr (5, [.int (-1), .int (-1), .int 0, .int 0]))] H := hP
  have hD : va_D A [(h0, .inr (5, [.int (-1), .int (-1), .int 0, .int 0]))] := hD
  have hP : va_P D kb_cl [(h0, .inr (5, [.int (-1), .int (-1), .int 0, .int 0]))] H := hP
  have hD : va_D A [(h0, .inr (5, [.int (-1), .int (-1), .int 0, .int 0]))] := hD
  exact W.vret hx hb hr (fun t ht hW => ⟨⟨(fun k => [].getD k 0), rfl, trivial, by rw [ht]; exact kn_Psub hP [0] rfl, va_K.moved hW.alike hK, hD.sub [0] (by decide) rfl⟩, hS.F ht⟩) hS.2.2 dn_Slot_14
set_option maxHeartbeats 4000000 in
set_option maxRecDepth 100000 in
theorem kn_Pool12 (l : Launch) (D : va_G) (cA : Nat → ClassId) (h0 sz : Nat) : kn_M l yn_Pool bn_Pool 3 ({ frames := 1, cells := 2, slots := 60, locals := 23 }) D cA [.ref h0, .int 12, .int 3] [(h0, .inr (2, [.int 0, .null, .null]))] (fun _ => True) (fun u => [(h0, .inr (2, [.int 3, .ref (u 0), .ref (u 1)])), ((u 0), .inl (cA 0, 12, .inl (fun j => if j < 12 then (-1) else 0))), ((u 1), .inl (cA 0, 48, .inl (fun _ => 0)))]) sz 2 60 := by
  refine Met.ofW (cc := bn_Pool) (maxL := 3) (ret := none) (by decide) rfl ?_
  intro p e s m args below meth c s₁ B hml hv
  obtain ⟨rfl, hsz, hP, hK, hD0, hE⟩ := hv
  have hx := B.exec
  have hb := B.bytes
  have hr := B.returns
  have hts := atoms_spec (ws := kn_wo yn_Pool bn_Pool 3) B.pre
  have hw : ∀ w ∈ kb_all, w.before _ s = true := fun w h => hts w (List.mem_cons_of_mem _ h)
  have hown : s.vm.findClass R_Pool = some m.cls := findClass_of_methodNamed B.named
  have hlocks := B.notSynchronized
  have hin : meth.name = "<init>" := (name_of_methodNamed B.named B.method).1
  subst hsz
  have hD := hD0.self (sz := s.heap.size)
  generalize hAe : va_A [(h0, .inr (2, [.int 0, .null, .null]))] s.heap.size = A at hD ⊢
  have hA : ∀ q : Nat, s.heap.size ≤ q → A q := fun q h => by rw [← hAe]; exact Or.inr h
  have hS : va_S A s.heap s.heap [] := va_S.rf
  have hl := lv_entry ([.ref h0, .int 12, .int 3]) (n := 3) (Nat.le_of_ble_eq_true rfl)
  rw [lg_entry_eq]
  generalize (lg_sl ([.ref h0, .int 12, .int 3]) ++ List.replicate (3 - (lg_sl ([.ref h0, .int 12, .int 3])).length) Slot.unset).toArray = ls at hl ⊢
  have hl : lv_has ls 3 [(0, .ref h0), (1, .int 12), (2, .int 3)] := hl
  refine lv_aload_n hx hb dn_Pool_0 rfl (lv_at hl 0 rfl) ?_
  refine W.objInit hx hb hown (hw (.methodLink R_Pool 3 Lib.objectInit) (kb_all_in (List.mem_of_getElem? (i := 67) rfl) rfl)) (hw (.instanceMethod Lib.objectInit) (kb_all_in (List.mem_of_getElem? (i := 54) rfl) rfl)) (hw (.code Lib.objectInit ⟨#[0xb1]⟩ 1 none) (kb_all_in (List.mem_of_getElem? (i := 55) rfl) rfl)) rfl (by rw [hml]; exact hl.1) rfl dn_Pool_1 (Nat.le_of_ble_eq_true rfl) (Nat.le_of_ble_eq_true rfl) ?_
  refine W.eq (g2 := F0 m 4 ls []) rfl ?_
  refine lv_aload_n hx hb dn_Pool_4 rfl (lv_at hl 0 rfl) ?_
  refine lv_iload_n hx hb dn_Pool_5 rfl (lv_at hl 2 rfl) ?_
  refine va_putF (D := D) (ci := 2) (v := .int 3) (ty := .int) (C := R_Pool) (T := F_Pool) (N := 3) hx hb hw u_Pool t_Pool kt_Pool kf_Pool hown hK hP hD hS 0 rfl rfl 0 (by decide) (hw (.fieldLink R_Pool 9 "BindingKernel$Pool" "share" "I") (kb_all_in (List.mem_of_getElem? (i := 71) rfl) rfl)) (fun _ h9 => h9) rfl hin rfl (by decide +kernel) rfl rfl (Nat.le_of_ble_eq_true rfl) dn_Pool_6 (fun H locs hP hD hS => ?_)
  have hP : va_P D kb_cl [(h0, .inr (2, [.int 3, .null, .null]))] H := hP
  have hD : va_D A [(h0, .inr (2, [.int 3, .null, .null]))] := hD
  refine lv_aload_n hx hb dn_Pool_9 rfl (lv_at hl 0 rfl) ?_
  refine lv_iload_n hx hb dn_Pool_10 rfl (lv_at hl 1 rfl) ?_
  refine kn_newa (atype := .int) (ty := .int) (f := fun _ => 0) (N' := 12) hx hb (hw (.arrayClass .int) (kb_all_in (List.mem_of_getElem? (i := 81) rfl) rfl)) rfl hK hP hD hS hA 0 rfl (fun _ => rfl) (by decide) (by decide) (by decide) (Nat.le_of_ble_eq_true rfl) (Nat.le_of_ble_eq_true rfl) dn_Pool_11 (fun q11 H hP hD hS => ?_)
  have hP : va_P D kb_cl [(h0, .inr (2, [.int 3, .null, .null])), (q11, .inl (cA 0, 12, .inl (fun _ => 0)))] H := hP
  have hD : va_D A [(h0, .inr (2, [.int 3, .null, .null])), (q11, .inl (cA 0, 12, .inl (fun _ => 0)))] := hD
  refine W.widen (k := 1) (n := 12) (by decide) (by decide) ?_
  refine va_putF (D := D) (ci := 2) (v := .ref q11) (ty := (.array .int)) (C := R_Pool) (T := F_Pool) (N := 3) hx hb hw u_Pool t_Pool kt_Pool kf_Pool hown hK hP hD hS 0 rfl rfl 1 (by decide) (hw (.fieldLink R_Pool 15 "BindingKernel$Pool" "holders" "[I") (kb_all_in (List.mem_of_getElem? (i := 72) rfl) rfl)) (fun _ h9 => h9) rfl hin rfl (by decide +kernel) rfl rfl (Nat.le_of_ble_eq_true rfl) dn_Pool_13 (fun H locs hP hD hS => ?_)
  have hP : va_P D kb_cl [(h0, .inr (2, [.int 3, .ref q11, .null])), (q11, .inl (cA 0, 12, .inl (fun _ => 0)))] H := hP
  have hD : va_D A [(h0, .inr (2, [.int 3, .ref q11, .null])), (q11, .inl (cA 0, 12, .inl (fun _ => 0)))] := hD
  refine lv_aload_n hx hb dn_Pool_16 rfl (lv_at hl 0 rfl) ?_
  refine lv_iload_n hx hb dn_Pool_17 rfl (lv_at hl 1 rfl) ?_
  refine lv_iconst (v := 4) hx hb dn_Pool_18 (by decide) ?_
  refine lv_imul hx hb dn_Pool_19 ?_
  refine lv_topi (fun y1 e1 => ?_)
  have e1 : y1 = 48 := e1.trans (by decide)
  subst e1
  refine kn_newa (atype := .int) (ty := .int) (f := fun _ => 0) (N' := 48) hx hb (hw (.arrayClass .int) (kb_all_in (List.mem_of_getElem? (i := 81) rfl) rfl)) rfl hK hP hD hS hA 0 rfl (fun _ => rfl) (by decide) (by decide) (by decide) (Nat.le_of_ble_eq_true rfl) (Nat.le_of_ble_eq_true rfl) dn_Pool_20 (fun q20 H hP hD hS => ?_)
  have hP : va_P D kb_cl [(h0, .inr (2, [.int 3, .ref q11, .null])), (q11, .inl (cA 0, 12, .inl (fun _ => 0))), (q20, .inl (cA 0, 48, .inl (fun _ => 0)))] H := hP
  have hD : va_D A [(h0, .inr (2, [.int 3, .ref q11, .null])), (q11, .inl (cA 0, 12, .inl (fun _ => 0))), (q20, .inl (cA 0, 48, .inl (fun _ => 0)))] := hD
  refine W.widen (k := 2) (n := 60) (by decide) (by decide) ?_
  refine va_putF (D := D) (ci := 2) (v := .ref q20) (ty := (.array .int)) (C := R_Pool) (T := F_Pool) (N := 3) hx hb hw u_Pool t_Pool kt_Pool kf_Pool hown hK hP hD hS 0 rfl rfl 2 (by decide) (hw (.fieldLink R_Pool 19 "BindingKernel$Pool" "words" "[I") (kb_all_in (List.mem_of_getElem? (i := 73) rfl) rfl)) (fun _ h9 => h9) rfl hin rfl (by decide +kernel) rfl rfl (Nat.le_of_ble_eq_true rfl) dn_Pool_22 (fun H locs hP hD hS => ?_)
  have hP : va_P D kb_cl [(h0, .inr (2, [.int 3, .ref q11, .ref q20])), (q11, .inl (cA 0, 12, .inl (fun _ => 0))), (q20, .inl (cA 0, 48, .inl (fun _ => 0)))] H := hP
  have hD : va_D A [(h0, .inr (2, [.int 3, .ref q11, .ref q20])), (q11, .inl (cA 0, 12, .inl (fun _ => 0))), (q20, .inl (cA 0, 48, .inl (fun _ => 0)))] := hD
  refine lv_aload_n hx hb dn_Pool_25 rfl (lv_at hl 0 rfl) ?_
  refine va_get (D := D) (ci := 2) (v := .ref q11) (C := R_Pool) (T := F_Pool) (N := 3) hx hb hw u_Pool hown hK hP 0 rfl rfl 1 (by decide) (hw (.fieldLink R_Pool 15 "BindingKernel$Pool" "holders" "[I") (kb_all_in (List.mem_of_getElem? (i := 72) rfl) rfl)) (fun _ h9 => h9) rfl dn_Pool_26 ?_
  refine lv_iconst (v := -1) hx hb dn_Pool_29 (by decide) ?_
  refine kn_back (wr := [(h0, .inr (2, [.int 3, .ref q11, .ref q20])), (q20, .inl (cA 0, 48, .inl (fun _ => 0)))]) (va_runS (As := [.ref q11, .int (-1)]) (rest := []) ⟨hx, hb, hml, hown, hts⟩ (kn_fill l D cA q11 12 (fun _ => 0) (-1) H.size (by decide)) ⟨callB_of 2 hts (kn_good (kb_all_in (List.mem_of_getElem? (i := 70) rfl) rfl)) rfl rfl rfl (hw (.initialized "java/util/Arrays") (kb_all_in (List.mem_of_getElem? (i := 41) rfl) rfl)) (hw (.methodLink R_Pool 22 yn_fill) (kb_all_in (List.mem_of_getElem? (i := 68) rfl) rfl)) (by decide +kernel) ⟨(Nat.le_of_ble_eq_true rfl), (Nat.le_of_ble_eq_true rfl)⟩, (hw (.static yn_fill) (kb_all_in (List.mem_of_getElem? (i := 69) rfl) rfl))⟩ (kn_preS kn_ex0 trivial hP hD hK [.ref q11, .int (-1)] [1] rfl (by decide)) rfl rfl hl.1 rfl (lv_room (Nat.le_of_ble_eq_true rfl)) dn_Pool_30 ⟨(Nat.le_of_ble_eq_true rfl), (Nat.le_of_ble_eq_true rfl)⟩) hP hD hS hA [1] [0, 2] rfl rfl (by decide) (by decide) (fun _ H locs hP hD hS => ?_)
  have hP : va_P D kb_cl [(h0, .inr (2, [.int 3, .ref q11, .ref q20])), (q20, .inl (cA 0, 48, .inl (fun _ => 0))), (q11, .inl (cA 0, 12, .inl (fun j => if j < 12 then (-1) else 0)))] H := hP
  have hD : va_D A [(h0, .inr (2, [.int 3, .ref q11, .ref q20])), (q20, .inl (cA 0, 48, .inl (fun _ => 0))), (q11, .inl (cA 0, 12, .inl (fun j => if j < 12 then (-1) else 0)))] := hD
  refine W.widen (k := 2) (n := 60) (by decide) (by decide) ?_
  have hP : va_P D kb_cl [(h0, .inr (2, [.int 3, .ref q11, .ref q20])), (q20, .inl (cA 0, 48, .inl (fun _ => 0))), (q11, .inl (cA 0, 12, .inl (fun j => if j < 12 then (-1) else 0)))] H := hP
  have hD : va_D A [(h0, .inr (2, [.int 3, .ref q11, .ref q20])), (q20, .inl (cA 0, 48, .inl (fun _ => 0))), (q11, .inl (cA 0, 12, .inl (fun j => if j < 12 then (-1) else 0)))] := hD
  exact W.vret hx hb hr (fun t ht hW => ⟨⟨(fun k => [q11, q20].getD k 0), rfl, trivial, by rw [ht]; exact kn_Psub hP [0, 2, 1] rfl, va_K.moved hW.alike hK, hD.sub [0, 2, 1] (by decide) rfl⟩, hS.F ht⟩) hS.2.2 dn_Pool_33
set_option maxHeartbeats 4000000 in
set_option maxRecDepth 100000 in
theorem kn_Pool24 (l : Launch) (D : va_G) (cA : Nat → ClassId) (h0 sz : Nat) : kn_M l yn_Pool bn_Pool 3 ({ frames := 1, cells := 2, slots := 120, locals := 23 }) D cA [.ref h0, .int 24, .int 6] [(h0, .inr (2, [.int 0, .null, .null]))] (fun _ => True) (fun u => [(h0, .inr (2, [.int 6, .ref (u 0), .ref (u 1)])), ((u 0), .inl (cA 0, 24, .inl (fun j => if j < 24 then (-1) else 0))), ((u 1), .inl (cA 0, 96, .inl (fun _ => 0)))]) sz 2 120 := by
  refine Met.ofW (cc := bn_Pool) (maxL := 3) (ret := none) (by decide) rfl ?_
  intro p e s m args below meth c s₁ B hml hv
  obtain ⟨rfl, hsz, hP, hK, hD0, hE⟩ := hv
  have hx := B.exec
  have hb := B.bytes
  have hr := B.returns
  have hts := atoms_spec (ws := kn_wo yn_Pool bn_Pool 3) B.pre
  have hw : ∀ w ∈ kb_all, w.before _ s = true := fun w h => hts w (List.mem_cons_of_mem _ h)
  have hown : s.vm.findClass R_Pool = some m.cls := findClass_of_methodNamed B.named
  have hlocks := B.notSynchronized
  have hin : meth.name = "<init>" := (name_of_methodNamed B.named B.method).1
  subst hsz
  have hD := hD0.self (sz := s.heap.size)
  generalize hAe : va_A [(h0, .inr (2, [.int 0, .null, .null]))] s.heap.size = A at hD ⊢
  have hA : ∀ q : Nat, s.heap.size ≤ q → A q := fun q h => by rw [← hAe]; exact Or.inr h
  have hS : va_S A s.heap s.heap [] := va_S.rf
  have hl := lv_entry ([.ref h0, .int 24, .int 6]) (n := 3) (Nat.le_of_ble_eq_true rfl)
  rw [lg_entry_eq]
  generalize (lg_sl ([.ref h0, .int 24, .int 6]) ++ List.replicate (3 - (lg_sl ([.ref h0, .int 24, .int 6])).length) Slot.unset).toArray = ls at hl ⊢
  have hl : lv_has ls 3 [(0, .ref h0), (1, .int 24), (2, .int 6)] := hl
  refine lv_aload_n hx hb dn_Pool_0 rfl (lv_at hl 0 rfl) ?_
  refine W.objInit hx hb hown (hw (.methodLink R_Pool 3 Lib.objectInit) (kb_all_in (List.mem_of_getElem? (i := 67) rfl) rfl)) (hw (.instanceMethod Lib.objectInit) (kb_all_in (List.mem_of_getElem? (i := 54) rfl) rfl)) (hw (.code Lib.objectInit ⟨#[0xb1]⟩ 1 none) (kb_all_in (List.mem_of_getElem? (i := 55) rfl) rfl)) rfl (by rw [hml]; exact hl.1) rfl dn_Pool_1 (Nat.le_of_ble_eq_true rfl) (Nat.le_of_ble_eq_true rfl) ?_
  refine W.eq (g2 := F0 m 4 ls []) rfl ?_
  refine lv_aload_n hx hb dn_Pool_4 rfl (lv_at hl 0 rfl) ?_
  refine lv_iload_n hx hb dn_Pool_5 rfl (lv_at hl 2 rfl) ?_
  refine va_putF (D := D) (ci := 2) (v := .int 6) (ty := .int) (C := R_Pool) (T := F_Pool) (N := 3) hx hb hw u_Pool t_Pool kt_Pool kf_Pool hown hK hP hD hS 0 rfl rfl 0 (by decide) (hw (.fieldLink R_Pool 9 "BindingKernel$Pool" "share" "I") (kb_all_in (List.mem_of_getElem? (i := 71) rfl) rfl)) (fun _ h9 => h9) rfl hin rfl (by decide +kernel) rfl rfl (Nat.le_of_ble_eq_true rfl) dn_Pool_6 (fun H locs hP hD hS => ?_)
  have hP : va_P D kb_cl [(h0, .inr (2, [.int 6, .null, .null]))] H := hP
  have hD : va_D A [(h0, .inr (2, [.int 6, .null, .null]))] := hD
  refine lv_aload_n hx hb dn_Pool_9 rfl (lv_at hl 0 rfl) ?_
  refine lv_iload_n hx hb dn_Pool_10 rfl (lv_at hl 1 rfl) ?_
  refine kn_newa (atype := .int) (ty := .int) (f := fun _ => 0) (N' := 24) hx hb (hw (.arrayClass .int) (kb_all_in (List.mem_of_getElem? (i := 81) rfl) rfl)) rfl hK hP hD hS hA 0 rfl (fun _ => rfl) (by decide) (by decide) (by decide) (Nat.le_of_ble_eq_true rfl) (Nat.le_of_ble_eq_true rfl) dn_Pool_11 (fun q11 H hP hD hS => ?_)
  have hP : va_P D kb_cl [(h0, .inr (2, [.int 6, .null, .null])), (q11, .inl (cA 0, 24, .inl (fun _ => 0)))] H := hP
  have hD : va_D A [(h0, .inr (2, [.int 6, .null, .null])), (q11, .inl (cA 0, 24, .inl (fun _ => 0)))] := hD
  refine W.widen (k := 1) (n := 24) (by decide) (by decide) ?_
  refine va_putF (D := D) (ci := 2) (v := .ref q11) (ty := (.array .int)) (C := R_Pool) (T := F_Pool) (N := 3) hx hb hw u_Pool t_Pool kt_Pool kf_Pool hown hK hP hD hS 0 rfl rfl 1 (by decide) (hw (.fieldLink R_Pool 15 "BindingKernel$Pool" "holders" "[I") (kb_all_in (List.mem_of_getElem? (i := 72) rfl) rfl)) (fun _ h9 => h9) rfl hin rfl (by decide +kernel) rfl rfl (Nat.le_of_ble_eq_true rfl) dn_Pool_13 (fun H locs hP hD hS => ?_)
  have hP : va_P D kb_cl [(h0, .inr (2, [.int 6, .ref q11, .null])), (q11, .inl (cA 0, 24, .inl (fun _ => 0)))] H := hP
  have hD : va_D A [(h0, .inr (2, [.int 6, .ref q11, .null])), (q11, .inl (cA 0, 24, .inl (fun _ => 0)))] := hD
  refine lv_aload_n hx hb dn_Pool_16 rfl (lv_at hl 0 rfl) ?_
  refine lv_iload_n hx hb dn_Pool_17 rfl (lv_at hl 1 rfl) ?_
  refine lv_iconst (v := 4) hx hb dn_Pool_18 (by decide) ?_
  refine lv_imul hx hb dn_Pool_19 ?_
  refine lv_topi (fun y1 e1 => ?_)
  have e1 : y1 = 96 := e1.trans (by decide)
  subst e1
  refine kn_newa (atype := .int) (ty := .int) (f := fun _ => 0) (N' := 96) hx hb (hw (.arrayClass .int) (kb_all_in (List.mem_of_getElem? (i := 81) rfl) rfl)) rfl hK hP hD hS hA 0 rfl (fun _ => rfl) (by decide) (by decide) (by decide) (Nat.le_of_ble_eq_true rfl) (Nat.le_of_ble_eq_true rfl) dn_Pool_20 (fun q20 H hP hD hS => ?_)
  have hP : va_P D kb_cl [(h0, .inr (2, [.int 6, .ref q11, .null])), (q11, .inl (cA 0, 24, .inl (fun _ => 0))), (q20, .inl (cA 0, 96, .inl (fun _ => 0)))] H := hP
  have hD : va_D A [(h0, .inr (2, [.int 6, .ref q11, .null])), (q11, .inl (cA 0, 24, .inl (fun _ => 0))), (q20, .inl (cA 0, 96, .inl (fun _ => 0)))] := hD
  refine W.widen (k := 2) (n := 120) (by decide) (by decide) ?_
  refine va_putF (D := D) (ci := 2) (v := .ref q20) (ty := (.array .int)) (C := R_Pool) (T := F_Pool) (N := 3) hx hb hw u_Pool t_Pool kt_Pool kf_Pool hown hK hP hD hS 0 rfl rfl 2 (by decide) (hw (.fieldLink R_Pool 19 "BindingKernel$Pool" "words" "[I") (kb_all_in (List.mem_of_getElem? (i := 73) rfl) rfl)) (fun _ h9 => h9) rfl hin rfl (by decide +kernel) rfl rfl (Nat.le_of_ble_eq_true rfl) dn_Pool_22 (fun H locs hP hD hS => ?_)
  have hP : va_P D kb_cl [(h0, .inr (2, [.int 6, .ref q11, .ref q20])), (q11, .inl (cA 0, 24, .inl (fun _ => 0))), (q20, .inl (cA 0, 96, .inl (fun _ => 0)))] H := hP
  have hD : va_D A [(h0, .inr (2, [.int 6, .ref q11, .ref q20])), (q11, .inl (cA 0, 24, .inl (fun _ => 0))), (q20, .inl (cA 0, 96, .inl (fun _ => 0)))] := hD
  refine lv_aload_n hx hb dn_Pool_25 rfl (lv_at hl 0 rfl) ?_
  refine va_get (D := D) (ci := 2) (v := .ref q11) (C := R_Pool) (T := F_Pool) (N := 3) hx hb hw u_Pool hown hK hP 0 rfl rfl 1 (by decide) (hw (.fieldLink R_Pool 15 "BindingKernel$Pool" "holders" "[I") (kb_all_in (List.mem_of_getElem? (i := 72) rfl) rfl)) (fun _ h9 => h9) rfl dn_Pool_26 ?_
  refine lv_iconst (v := -1) hx hb dn_Pool_29 (by decide) ?_
  refine kn_back (wr := [(h0, .inr (2, [.int 6, .ref q11, .ref q20])), (q20, .inl (cA 0, 96, .inl (fun _ => 0)))]) (va_runS (As := [.ref q11, .int (-1)]) (rest := []) ⟨hx, hb, hml, hown, hts⟩ (kn_fill l D cA q11 24 (fun _ => 0) (-1) H.size (by decide)) ⟨callB_of 2 hts (kn_good (kb_all_in (List.mem_of_getElem? (i := 70) rfl) rfl)) rfl rfl rfl (hw (.initialized "java/util/Arrays") (kb_all_in (List.mem_of_getElem? (i := 41) rfl) rfl)) (hw (.methodLink R_Pool 22 yn_fill) (kb_all_in (List.mem_of_getElem? (i := 68) rfl) rfl)) (by decide +kernel) ⟨(Nat.le_of_ble_eq_true rfl), (Nat.le_of_ble_eq_true rfl)⟩, (hw (.static yn_fill) (kb_all_in (List.mem_of_getElem? (i := 69) rfl) rfl))⟩ (kn_preS kn_ex0 trivial hP hD hK [.ref q11, .int (-1)] [1] rfl (by decide)) rfl rfl hl.1 rfl (lv_room (Nat.le_of_ble_eq_true rfl)) dn_Pool_30 ⟨(Nat.le_of_ble_eq_true rfl), (Nat.le_of_ble_eq_true rfl)⟩) hP hD hS hA [1] [0, 2] rfl rfl (by decide) (by decide) (fun _ H locs hP hD hS => ?_)
  have hP : va_P D kb_cl [(h0, .inr (2, [.int 6, .ref q11, .ref q20])), (q20, .inl (cA 0, 96, .inl (fun _ => 0))), (q11, .inl (cA 0, 24, .inl (fun j => if j < 24 then (-1) else 0)))] H := hP
  have hD : va_D A [(h0, .inr (2, [.int 6, .ref q11, .ref q20])), (q20, .inl (cA 0, 96, .inl (fun _ => 0))), (q11, .inl (cA 0, 24, .inl (fun j => if j < 24 then (-1) else 0)))] := hD
  refine W.widen (k := 2) (n := 120) (by decide) (by decide) ?_
  have hP : va_P D kb_cl [(h0, .inr (2, [.int 6, .ref q11, .ref q20])), (q20, .inl (cA 0, 96, .inl (fun _ => 0))), (q11, .inl (cA 0, 24, .inl (fun j => if j < 24 then (-1) else 0)))] H := hP
  have hD : va_D A [(h0, .inr (2, [.int 6, .ref q11, .ref q20])), (q20, .inl (cA 0, 96, .inl (fun _ => 0))), (q11, .inl (cA 0, 24, .inl (fun j => if j < 24 then (-1) else 0)))] := hD
  exact W.vret hx hb hr (fun t ht hW => ⟨⟨(fun k => [q11, q20].getD k 0), rfl, trivial, by rw [ht]; exact kn_Psub hP [0, 2, 1] rfl, va_K.moved hW.alike hK, hD.sub [0, 2, 1] (by decide) rfl⟩, hS.F ht⟩) hS.2.2 dn_Pool_33
set_option maxHeartbeats 4000000 in
set_option maxRecDepth 100000 in
theorem kn_Guest (l : Launch) (D : va_G) (cA : Nat → ClassId) (h0 sz : Nat) (g1 g2 : Nat) : kn_M l yn_Guest bn_Guest 3 ({ frames := 1, cells := 4, slots := 240, locals := 12 }) D cA [.ref h0, .ref g1, .ref g2] [(h0, .inr (3, [.int 0, .null, .null, .null, .null, .null, .null, .int 0]))] (fun _ => True) (fun u => [(h0, .inr (3, [.int 0, .ref g1, .ref g2, .ref (u 0), .ref (u 1), .ref (u 2), .ref (u 3), .int 0])), ((u 0), .inl (cA 1, 60, .inl (fun _ => 0))), ((u 1), .inl (cA 0, 60, .inl (fun _ => 0))), ((u 2), .inl (cA 0, 60, .inl (fun _ => 0))), ((u 3), .inl (cA 0, 60, .inl (fun _ => 0)))]) sz 4 240 := by
  refine Met.ofW (cc := bn_Guest) (maxL := 3) (ret := none) (by decide) rfl ?_
  intro p e s m args below meth c s₁ B hml hv
  obtain ⟨rfl, hsz, hP, hK, hD0, hE⟩ := hv
  have hx := B.exec
  have hb := B.bytes
  have hr := B.returns
  have hts := atoms_spec (ws := kn_wo yn_Guest bn_Guest 3) B.pre
  have hw : ∀ w ∈ kb_all, w.before _ s = true := fun w h => hts w (List.mem_cons_of_mem _ h)
  have hown : s.vm.findClass R_Guest = some m.cls := findClass_of_methodNamed B.named
  have hlocks := B.notSynchronized
  have hin : meth.name = "<init>" := (name_of_methodNamed B.named B.method).1
  subst hsz
  have hD := hD0.self (sz := s.heap.size)
  generalize hAe : va_A [(h0, .inr (3, [.int 0, .null, .null, .null, .null, .null, .null, .int 0]))] s.heap.size = A at hD ⊢
  have hA : ∀ q : Nat, s.heap.size ≤ q → A q := fun q h => by rw [← hAe]; exact Or.inr h
  have hS : va_S A s.heap s.heap [] := va_S.rf
  have hl := lv_entry ([.ref h0, .ref g1, .ref g2]) (n := 3) (Nat.le_of_ble_eq_true rfl)
  rw [lg_entry_eq]
  generalize (lg_sl ([.ref h0, .ref g1, .ref g2]) ++ List.replicate (3 - (lg_sl ([.ref h0, .ref g1, .ref g2])).length) Slot.unset).toArray = ls at hl ⊢
  have hl : lv_has ls 3 [(0, .ref h0), (1, .ref g1), (2, .ref g2)] := hl
  refine lv_aload_n hx hb dn_Guest_0 rfl (lv_at hl 0 rfl) ?_
  refine W.objInit hx hb hown (hw (.methodLink R_Guest 3 Lib.objectInit) (kb_all_in (List.mem_of_getElem? (i := 87) rfl) rfl)) (hw (.instanceMethod Lib.objectInit) (kb_all_in (List.mem_of_getElem? (i := 54) rfl) rfl)) (hw (.code Lib.objectInit ⟨#[0xb1]⟩ 1 none) (kb_all_in (List.mem_of_getElem? (i := 55) rfl) rfl)) rfl (by rw [hml]; exact hl.1) rfl dn_Guest_1 (Nat.le_of_ble_eq_true rfl) (Nat.le_of_ble_eq_true rfl) ?_
  refine W.eq (g2 := F0 m 4 ls []) rfl ?_
  refine lv_aload_n hx hb dn_Guest_4 rfl (lv_at hl 0 rfl) ?_
  refine lv_bipush (v := 60) hx hb dn_Guest_5 (by decide) ?_
  refine kn_newa (atype := .boolean) (ty := .boolean) (f := fun _ => 0) (N' := 60) hx hb (hw (.arrayClass .boolean) (kb_all_in (List.mem_of_getElem? (i := 114) rfl) rfl)) rfl hK hP hD hS hA 1 rfl (fun _ => rfl) (by decide) (by decide) (by decide) (Nat.le_of_ble_eq_true rfl) (Nat.le_of_ble_eq_true rfl) dn_Guest_7 (fun q7 H hP hD hS => ?_)
  have hP : va_P D kb_cl [(h0, .inr (3, [.int 0, .null, .null, .null, .null, .null, .null, .int 0])), (q7, .inl (cA 1, 60, .inl (fun _ => 0)))] H := hP
  have hD : va_D A [(h0, .inr (3, [.int 0, .null, .null, .null, .null, .null, .null, .int 0])), (q7, .inl (cA 1, 60, .inl (fun _ => 0)))] := hD
  refine W.widen (k := 1) (n := 60) (by decide) (by decide) ?_
  refine va_putF (D := D) (ci := 3) (v := .ref q7) (ty := (.array .boolean)) (C := R_Guest) (T := F_Guest) (N := 8) hx hb hw u_Guest t_Guest kt_Guest kf_Guest hown hK hP hD hS 0 rfl rfl 3 (by decide) (hw (.fieldLink R_Guest 9 "BindingKernel$Guest" "ofBlocks" "[Z") (kb_all_in (List.mem_of_getElem? (i := 92) rfl) rfl)) (fun _ h9 => h9) rfl hin rfl (by decide +kernel) rfl rfl (Nat.le_of_ble_eq_true rfl) dn_Guest_9 (fun H locs hP hD hS => ?_)
  have hP : va_P D kb_cl [(h0, .inr (3, [.int 0, .null, .null, .ref q7, .null, .null, .null, .int 0])), (q7, .inl (cA 1, 60, .inl (fun _ => 0)))] H := hP
  have hD : va_D A [(h0, .inr (3, [.int 0, .null, .null, .ref q7, .null, .null, .null, .int 0])), (q7, .inl (cA 1, 60, .inl (fun _ => 0)))] := hD
  refine lv_aload_n hx hb dn_Guest_12 rfl (lv_at hl 0 rfl) ?_
  refine lv_bipush (v := 60) hx hb dn_Guest_13 (by decide) ?_
  refine kn_newa (atype := .int) (ty := .int) (f := fun _ => 0) (N' := 60) hx hb (hw (.arrayClass .int) (kb_all_in (List.mem_of_getElem? (i := 81) rfl) rfl)) rfl hK hP hD hS hA 0 rfl (fun _ => rfl) (by decide) (by decide) (by decide) (Nat.le_of_ble_eq_true rfl) (Nat.le_of_ble_eq_true rfl) dn_Guest_15 (fun q15 H hP hD hS => ?_)
  have hP : va_P D kb_cl [(h0, .inr (3, [.int 0, .null, .null, .ref q7, .null, .null, .null, .int 0])), (q7, .inl (cA 1, 60, .inl (fun _ => 0))), (q15, .inl (cA 0, 60, .inl (fun _ => 0)))] H := hP
  have hD : va_D A [(h0, .inr (3, [.int 0, .null, .null, .ref q7, .null, .null, .null, .int 0])), (q7, .inl (cA 1, 60, .inl (fun _ => 0))), (q15, .inl (cA 0, 60, .inl (fun _ => 0)))] := hD
  refine W.widen (k := 2) (n := 120) (by decide) (by decide) ?_
  refine va_putF (D := D) (ci := 3) (v := .ref q15) (ty := (.array .int)) (C := R_Guest) (T := F_Guest) (N := 8) hx hb hw u_Guest t_Guest kt_Guest kf_Guest hown hK hP hD hS 0 rfl rfl 4 (by decide) (hw (.fieldLink R_Guest 15 "BindingKernel$Guest" "resources" "[I") (kb_all_in (List.mem_of_getElem? (i := 93) rfl) rfl)) (fun _ h9 => h9) rfl hin rfl (by decide +kernel) rfl rfl (Nat.le_of_ble_eq_true rfl) dn_Guest_17 (fun H locs hP hD hS => ?_)
  have hP : va_P D kb_cl [(h0, .inr (3, [.int 0, .null, .null, .ref q7, .ref q15, .null, .null, .int 0])), (q7, .inl (cA 1, 60, .inl (fun _ => 0))), (q15, .inl (cA 0, 60, .inl (fun _ => 0)))] H := hP
  have hD : va_D A [(h0, .inr (3, [.int 0, .null, .null, .ref q7, .ref q15, .null, .null, .int 0])), (q7, .inl (cA 1, 60, .inl (fun _ => 0))), (q15, .inl (cA 0, 60, .inl (fun _ => 0)))] := hD
  refine lv_aload_n hx hb dn_Guest_20 rfl (lv_at hl 0 rfl) ?_
  refine lv_bipush (v := 60) hx hb dn_Guest_21 (by decide) ?_
  refine kn_newa (atype := .int) (ty := .int) (f := fun _ => 0) (N' := 60) hx hb (hw (.arrayClass .int) (kb_all_in (List.mem_of_getElem? (i := 81) rfl) rfl)) rfl hK hP hD hS hA 0 rfl (fun _ => rfl) (by decide) (by decide) (by decide) (Nat.le_of_ble_eq_true rfl) (Nat.le_of_ble_eq_true rfl) dn_Guest_23 (fun q23 H hP hD hS => ?_)
  have hP : va_P D kb_cl [(h0, .inr (3, [.int 0, .null, .null, .ref q7, .ref q15, .null, .null, .int 0])), (q7, .inl (cA 1, 60, .inl (fun _ => 0))), (q15, .inl (cA 0, 60, .inl (fun _ => 0))), (q23, .inl (cA 0, 60, .inl (fun _ => 0)))] H := hP
  have hD : va_D A [(h0, .inr (3, [.int 0, .null, .null, .ref q7, .ref q15, .null, .null, .int 0])), (q7, .inl (cA 1, 60, .inl (fun _ => 0))), (q15, .inl (cA 0, 60, .inl (fun _ => 0))), (q23, .inl (cA 0, 60, .inl (fun _ => 0)))] := hD
  refine W.widen (k := 3) (n := 180) (by decide) (by decide) ?_
  refine va_putF (D := D) (ci := 3) (v := .ref q23) (ty := (.array .int)) (C := R_Guest) (T := F_Guest) (N := 8) hx hb hw u_Guest t_Guest kt_Guest kf_Guest hown hK hP hD hS 0 rfl rfl 5 (by decide) (hw (.fieldLink R_Guest 19 "BindingKernel$Guest" "states" "[I") (kb_all_in (List.mem_of_getElem? (i := 94) rfl) rfl)) (fun _ h9 => h9) rfl hin rfl (by decide +kernel) rfl rfl (Nat.le_of_ble_eq_true rfl) dn_Guest_25 (fun H locs hP hD hS => ?_)
  have hP : va_P D kb_cl [(h0, .inr (3, [.int 0, .null, .null, .ref q7, .ref q15, .ref q23, .null, .int 0])), (q7, .inl (cA 1, 60, .inl (fun _ => 0))), (q15, .inl (cA 0, 60, .inl (fun _ => 0))), (q23, .inl (cA 0, 60, .inl (fun _ => 0)))] H := hP
  have hD : va_D A [(h0, .inr (3, [.int 0, .null, .null, .ref q7, .ref q15, .ref q23, .null, .int 0])), (q7, .inl (cA 1, 60, .inl (fun _ => 0))), (q15, .inl (cA 0, 60, .inl (fun _ => 0))), (q23, .inl (cA 0, 60, .inl (fun _ => 0)))] := hD
  refine lv_aload_n hx hb dn_Guest_28 rfl (lv_at hl 0 rfl) ?_
  refine lv_bipush (v := 60) hx hb dn_Guest_29 (by decide) ?_
  refine kn_newa (atype := .int) (ty := .int) (f := fun _ => 0) (N' := 60) hx hb (hw (.arrayClass .int) (kb_all_in (List.mem_of_getElem? (i := 81) rfl) rfl)) rfl hK hP hD hS hA 0 rfl (fun _ => rfl) (by decide) (by decide) (by decide) (Nat.le_of_ble_eq_true rfl) (Nat.le_of_ble_eq_true rfl) dn_Guest_31 (fun q31 H hP hD hS => ?_)
  have hP : va_P D kb_cl [(h0, .inr (3, [.int 0, .null, .null, .ref q7, .ref q15, .ref q23, .null, .int 0])), (q7, .inl (cA 1, 60, .inl (fun _ => 0))), (q15, .inl (cA 0, 60, .inl (fun _ => 0))), (q23, .inl (cA 0, 60, .inl (fun _ => 0))), (q31, .inl (cA 0, 60, .inl (fun _ => 0)))] H := hP
  have hD : va_D A [(h0, .inr (3, [.int 0, .null, .null, .ref q7, .ref q15, .ref q23, .null, .int 0])), (q7, .inl (cA 1, 60, .inl (fun _ => 0))), (q15, .inl (cA 0, 60, .inl (fun _ => 0))), (q23, .inl (cA 0, 60, .inl (fun _ => 0))), (q31, .inl (cA 0, 60, .inl (fun _ => 0)))] := hD
  refine W.widen (k := 4) (n := 240) (by decide) (by decide) ?_
  refine va_putF (D := D) (ci := 3) (v := .ref q31) (ty := (.array .int)) (C := R_Guest) (T := F_Guest) (N := 8) hx hb hw u_Guest t_Guest kt_Guest kf_Guest hown hK hP hD hS 0 rfl rfl 6 (by decide) (hw (.fieldLink R_Guest 22 "BindingKernel$Guest" "deadlines" "[I") (kb_all_in (List.mem_of_getElem? (i := 95) rfl) rfl)) (fun _ h9 => h9) rfl hin rfl (by decide +kernel) rfl rfl (Nat.le_of_ble_eq_true rfl) dn_Guest_33 (fun H locs hP hD hS => ?_)
  have hP : va_P D kb_cl [(h0, .inr (3, [.int 0, .null, .null, .ref q7, .ref q15, .ref q23, .ref q31, .int 0])), (q7, .inl (cA 1, 60, .inl (fun _ => 0))), (q15, .inl (cA 0, 60, .inl (fun _ => 0))), (q23, .inl (cA 0, 60, .inl (fun _ => 0))), (q31, .inl (cA 0, 60, .inl (fun _ => 0)))] H := hP
  have hD : va_D A [(h0, .inr (3, [.int 0, .null, .null, .ref q7, .ref q15, .ref q23, .ref q31, .int 0])), (q7, .inl (cA 1, 60, .inl (fun _ => 0))), (q15, .inl (cA 0, 60, .inl (fun _ => 0))), (q23, .inl (cA 0, 60, .inl (fun _ => 0))), (q31, .inl (cA 0, 60, .inl (fun _ => 0)))] := hD
  refine lv_aload_n hx hb dn_Guest_36 rfl (lv_at hl 0 rfl) ?_
  refine lv_aload_n hx hb dn_Guest_37 rfl (lv_at hl 1 rfl) ?_
  refine va_putF (D := D) (ci := 3) (v := .ref g1) (ty := (.object "BindingKernel$Pool")) (C := R_Guest) (T := F_Guest) (N := 8) hx hb hw u_Guest t_Guest kt_Guest kf_Guest hown hK hP hD hS 0 rfl rfl 1 (by decide) (hw (.fieldLink R_Guest 25 "BindingKernel$Guest" "frames" "LBindingKernel$Pool;") (kb_all_in (List.mem_of_getElem? (i := 90) rfl) rfl)) (fun _ h9 => h9) rfl hin rfl (by decide +kernel) rfl rfl (Nat.le_of_ble_eq_true rfl) dn_Guest_38 (fun H locs hP hD hS => ?_)
  have hP : va_P D kb_cl [(h0, .inr (3, [.int 0, .ref g1, .null, .ref q7, .ref q15, .ref q23, .ref q31, .int 0])), (q7, .inl (cA 1, 60, .inl (fun _ => 0))), (q15, .inl (cA 0, 60, .inl (fun _ => 0))), (q23, .inl (cA 0, 60, .inl (fun _ => 0))), (q31, .inl (cA 0, 60, .inl (fun _ => 0)))] H := hP
  have hD : va_D A [(h0, .inr (3, [.int 0, .ref g1, .null, .ref q7, .ref q15, .ref q23, .ref q31, .int 0])), (q7, .inl (cA 1, 60, .inl (fun _ => 0))), (q15, .inl (cA 0, 60, .inl (fun _ => 0))), (q23, .inl (cA 0, 60, .inl (fun _ => 0))), (q31, .inl (cA 0, 60, .inl (fun _ => 0)))] := hD
  refine lv_aload_n hx hb dn_Guest_41 rfl (lv_at hl 0 rfl) ?_
  refine lv_aload_n hx hb dn_Guest_42 rfl (lv_at hl 2 rfl) ?_
  refine va_putF (D := D) (ci := 3) (v := .ref g2) (ty := (.object "BindingKernel$Pool")) (C := R_Guest) (T := F_Guest) (N := 8) hx hb hw u_Guest t_Guest kt_Guest kf_Guest hown hK hP hD hS 0 rfl rfl 2 (by decide) (hw (.fieldLink R_Guest 29 "BindingKernel$Guest" "blocks" "LBindingKernel$Pool;") (kb_all_in (List.mem_of_getElem? (i := 91) rfl) rfl)) (fun _ h9 => h9) rfl hin rfl (by decide +kernel) rfl rfl (Nat.le_of_ble_eq_true rfl) dn_Guest_43 (fun H locs hP hD hS => ?_)
  have hP : va_P D kb_cl [(h0, .inr (3, [.int 0, .ref g1, .ref g2, .ref q7, .ref q15, .ref q23, .ref q31, .int 0])), (q7, .inl (cA 1, 60, .inl (fun _ => 0))), (q15, .inl (cA 0, 60, .inl (fun _ => 0))), (q23, .inl (cA 0, 60, .inl (fun _ => 0))), (q31, .inl (cA 0, 60, .inl (fun _ => 0)))] H := hP
  have hD : va_D A [(h0, .inr (3, [.int 0, .ref g1, .ref g2, .ref q7, .ref q15, .ref q23, .ref q31, .int 0])), (q7, .inl (cA 1, 60, .inl (fun _ => 0))), (q15, .inl (cA 0, 60, .inl (fun _ => 0))), (q23, .inl (cA 0, 60, .inl (fun _ => 0))), (q31, .inl (cA 0, 60, .inl (fun _ => 0)))] := hD
  have hP : va_P D kb_cl [(h0, .inr (3, [.int 0, .ref g1, .ref g2, .ref q7, .ref q15, .ref q23, .ref q31, .int 0])), (q7, .inl (cA 1, 60, .inl (fun _ => 0))), (q15, .inl (cA 0, 60, .inl (fun _ => 0))), (q23, .inl (cA 0, 60, .inl (fun _ => 0))), (q31, .inl (cA 0, 60, .inl (fun _ => 0)))] H := hP
  have hD : va_D A [(h0, .inr (3, [.int 0, .ref g1, .ref g2, .ref q7, .ref q15, .ref q23, .ref q31, .int 0])), (q7, .inl (cA 1, 60, .inl (fun _ => 0))), (q15, .inl (cA 0, 60, .inl (fun _ => 0))), (q23, .inl (cA 0, 60, .inl (fun _ => 0))), (q31, .inl (cA 0, 60, .inl (fun _ => 0)))] := hD
  exact W.vret hx hb hr (fun t ht hW => ⟨⟨(fun k => [q7, q15, q23, q31].getD k 0), rfl, trivial, by rw [ht]; exact kn_Psub hP [0, 1, 2, 3, 4] rfl, va_K.moved hW.alike hK, hD.sub [0, 1, 2, 3, 4] (by decide) rfl⟩, hS.F ht⟩) hS.2.2 dn_Guest_46
set_option maxHeartbeats 4000000 in
set_option maxRecDepth 100000 in
theorem kn_Model (l : Launch) (D : va_G) (cA : Nat → ClassId) (h0 sz : Nat) : kn_M l yn_Model bn_Model 1 ({ frames := 1, cells := 11, slots := 1158, locals := 12 }) D cA [.ref h0] [(h0, .inr (6, [.int 0, .int 0, .int 0, .null, .null, .null, .null, .null, .null, .null, .null, .null, .null, .null]))] (fun _ => True) (fun u => [(h0, .inr (6, [.int 0, .int 0, .int 0, .ref (u 0), .ref (u 1), .ref (u 2), .ref (u 3), .ref (u 4), .ref (u 5), .ref (u 6), .ref (u 7), .ref (u 8), .ref (u 9), .ref (u 10)])), ((u 0), .inl (cA 0, 288, .inl (fun _ => 0))), ((u 1), .inl (cA 0, 12, .inl (fun _ => 0))), ((u 2), .inl (cA 0, 6, .inl (fun _ => 0))), ((u 3), .inl (cA 1, 6, .inl (fun _ => 0))), ((u 4), .inl (cA 0, 2, .inl (fun _ => 0))), ((u 5), .inl (cA 0, 2, .inl (fun _ => 0))), ((u 6), .inl (cA 0, 2, .inl (fun _ => 0))), ((u 7), .inl (cA 1, 120, .inl (fun _ => 0))), ((u 8), .inl (cA 0, 120, .inl (fun _ => 0))), ((u 9), .inl (cA 0, 120, .inl (fun _ => 0))), ((u 10), .inl (cA 0, 480, .inl (fun _ => 0)))]) sz 11 1158 := by
  refine Met.ofW (cc := bn_Model) (maxL := 1) (ret := none) (by decide) rfl ?_
  intro p e s m args below meth c s₁ B hml hv
  obtain ⟨rfl, hsz, hP, hK, hD0, hE⟩ := hv
  have hx := B.exec
  have hb := B.bytes
  have hr := B.returns
  have hts := atoms_spec (ws := kn_wo yn_Model bn_Model 1) B.pre
  have hw : ∀ w ∈ kb_all, w.before _ s = true := fun w h => hts w (List.mem_cons_of_mem _ h)
  have hown : s.vm.findClass R_Model = some m.cls := findClass_of_methodNamed B.named
  have hlocks := B.notSynchronized
  have hin : meth.name = "<init>" := (name_of_methodNamed B.named B.method).1
  subst hsz
  have hD := hD0.self (sz := s.heap.size)
  generalize hAe : va_A [(h0, .inr (6, [.int 0, .int 0, .int 0, .null, .null, .null, .null, .null, .null, .null, .null, .null, .null, .null]))] s.heap.size = A at hD ⊢
  have hA : ∀ q : Nat, s.heap.size ≤ q → A q := fun q h => by rw [← hAe]; exact Or.inr h
  have hS : va_S A s.heap s.heap [] := va_S.rf
  have hl := lv_entry ([.ref h0]) (n := 1) (Nat.le_of_ble_eq_true rfl)
  rw [lg_entry_eq]
  generalize (lg_sl ([.ref h0]) ++ List.replicate (1 - (lg_sl ([.ref h0])).length) Slot.unset).toArray = ls at hl ⊢
  have hl : lv_has ls 1 [(0, .ref h0)] := hl
  refine lv_aload_n hx hb dn_Model_0 rfl (lv_at hl 0 rfl) ?_
  refine W.objInit hx hb hown (hw (.methodLink R_Model 1 Lib.objectInit) (kb_all_in (List.mem_of_getElem? (i := 520) rfl) rfl)) (hw (.instanceMethod Lib.objectInit) (kb_all_in (List.mem_of_getElem? (i := 54) rfl) rfl)) (hw (.code Lib.objectInit ⟨#[0xb1]⟩ 1 none) (kb_all_in (List.mem_of_getElem? (i := 55) rfl) rfl)) rfl (by rw [hml]; exact hl.1) rfl dn_Model_1 (Nat.le_of_ble_eq_true rfl) (Nat.le_of_ble_eq_true rfl) ?_
  refine W.eq (g2 := F0 m 4 ls []) rfl ?_
  refine lv_aload_n hx hb dn_Model_4 rfl (lv_at hl 0 rfl) ?_
  refine lv_sipush (v := 288) hx hb dn_Model_5 (by decide) ?_
  refine kn_newa (atype := .int) (ty := .int) (f := fun _ => 0) (N' := 288) hx hb (hw (.arrayClass .int) (kb_all_in (List.mem_of_getElem? (i := 81) rfl) rfl)) rfl hK hP hD hS hA 0 rfl (fun _ => rfl) (by decide) (by decide) (by decide) (Nat.le_of_ble_eq_true rfl) (Nat.le_of_ble_eq_true rfl) dn_Model_8 (fun q8 H hP hD hS => ?_)
  have hP : va_P D kb_cl [(h0, .inr (6, [.int 0, .int 0, .int 0, .null, .null, .null, .null, .null, .null, .null, .null, .null, .null, .null])), (q8, .inl (cA 0, 288, .inl (fun _ => 0)))] H := hP
  have hD : va_D A [(h0, .inr (6, [.int 0, .int 0, .int 0, .null, .null, .null, .null, .null, .null, .null, .null, .null, .null, .null])), (q8, .inl (cA 0, 288, .inl (fun _ => 0)))] := hD
  refine W.widen (k := 1) (n := 288) (by decide) (by decide) ?_
  refine va_put (D := D) (ci := 6) (v := .ref q8) (ty := (.array .int)) (C := R_Model) (T := F_Model) (N := 14) hx hb hw u_Model t_Model kt_Model kf_Model hown hK hP hD hS 0 rfl rfl 3 (by decide) (hw (.fieldLink R_Model 7 "BindingKernelModel" "words" "[I") (kb_all_in (List.mem_of_getElem? (i := 524) rfl) rfl)) (fun _ h9 => h9) rfl (by decide +kernel) rfl rfl (Nat.le_of_ble_eq_true rfl) dn_Model_10 (fun H locs hP hD hS => ?_)
  have hP : va_P D kb_cl [(h0, .inr (6, [.int 0, .int 0, .int 0, .ref q8, .null, .null, .null, .null, .null, .null, .null, .null, .null, .null])), (q8, .inl (cA 0, 288, .inl (fun _ => 0)))] H := hP
  have hD : va_D A [(h0, .inr (6, [.int 0, .int 0, .int 0, .ref q8, .null, .null, .null, .null, .null, .null, .null, .null, .null, .null])), (q8, .inl (cA 0, 288, .inl (fun _ => 0)))] := hD
  refine lv_aload_n hx hb dn_Model_13 rfl (lv_at hl 0 rfl) ?_
  refine lv_bipush (v := 12) hx hb dn_Model_14 (by decide) ?_
  refine kn_newa (atype := .int) (ty := .int) (f := fun _ => 0) (N' := 12) hx hb (hw (.arrayClass .int) (kb_all_in (List.mem_of_getElem? (i := 81) rfl) rfl)) rfl hK hP hD hS hA 0 rfl (fun _ => rfl) (by decide) (by decide) (by decide) (Nat.le_of_ble_eq_true rfl) (Nat.le_of_ble_eq_true rfl) dn_Model_16 (fun q16 H hP hD hS => ?_)
  have hP : va_P D kb_cl [(h0, .inr (6, [.int 0, .int 0, .int 0, .ref q8, .null, .null, .null, .null, .null, .null, .null, .null, .null, .null])), (q8, .inl (cA 0, 288, .inl (fun _ => 0))), (q16, .inl (cA 0, 12, .inl (fun _ => 0)))] H := hP
  have hD : va_D A [(h0, .inr (6, [.int 0, .int 0, .int 0, .ref q8, .null, .null, .null, .null, .null, .null, .null, .null, .null, .null])), (q8, .inl (cA 0, 288, .inl (fun _ => 0))), (q16, .inl (cA 0, 12, .inl (fun _ => 0)))] := hD
  refine W.widen (k := 2) (n := 300) (by decide) (by decide) ?_
  refine va_put (D := D) (ci := 6) (v := .ref q16) (ty := (.array .int)) (C := R_Model) (T := F_Model) (N := 14) hx hb hw u_Model t_Model kt_Model kf_Model hown hK hP hD hS 0 rfl rfl 4 (by decide) (hw (.fieldLink R_Model 13 "BindingKernelModel" "size" "[I") (kb_all_in (List.mem_of_getElem? (i := 525) rfl) rfl)) (fun _ h9 => h9) rfl (by decide +kernel) rfl rfl (Nat.le_of_ble_eq_true rfl) dn_Model_18 (fun H locs hP hD hS => ?_)
  have hP : va_P D kb_cl [(h0, .inr (6, [.int 0, .int 0, .int 0, .ref q8, .ref q16, .null, .null, .null, .null, .null, .null, .null, .null, .null])), (q8, .inl (cA 0, 288, .inl (fun _ => 0))), (q16, .inl (cA 0, 12, .inl (fun _ => 0)))] H := hP
  have hD : va_D A [(h0, .inr (6, [.int 0, .int 0, .int 0, .ref q8, .ref q16, .null, .null, .null, .null, .null, .null, .null, .null, .null])), (q8, .inl (cA 0, 288, .inl (fun _ => 0))), (q16, .inl (cA 0, 12, .inl (fun _ => 0)))] := hD
  refine lv_aload_n hx hb dn_Model_21 rfl (lv_at hl 0 rfl) ?_
  refine lv_bipush (v := 6) hx hb dn_Model_22 (by decide) ?_
  refine kn_newa (atype := .int) (ty := .int) (f := fun _ => 0) (N' := 6) hx hb (hw (.arrayClass .int) (kb_all_in (List.mem_of_getElem? (i := 81) rfl) rfl)) rfl hK hP hD hS hA 0 rfl (fun _ => rfl) (by decide) (by decide) (by decide) (Nat.le_of_ble_eq_true rfl) (Nat.le_of_ble_eq_true rfl) dn_Model_24 (fun q24 H hP hD hS => ?_)
  have hP : va_P D kb_cl [(h0, .inr (6, [.int 0, .int 0, .int 0, .ref q8, .ref q16, .null, .null, .null, .null, .null, .null, .null, .null, .null])), (q8, .inl (cA 0, 288, .inl (fun _ => 0))), (q16, .inl (cA 0, 12, .inl (fun _ => 0))), (q24, .inl (cA 0, 6, .inl (fun _ => 0)))] H := hP
  have hD : va_D A [(h0, .inr (6, [.int 0, .int 0, .int 0, .ref q8, .ref q16, .null, .null, .null, .null, .null, .null, .null, .null, .null])), (q8, .inl (cA 0, 288, .inl (fun _ => 0))), (q16, .inl (cA 0, 12, .inl (fun _ => 0))), (q24, .inl (cA 0, 6, .inl (fun _ => 0)))] := hD
  refine W.widen (k := 3) (n := 306) (by decide) (by decide) ?_
  refine va_put (D := D) (ci := 6) (v := .ref q24) (ty := (.array .int)) (C := R_Model) (T := F_Model) (N := 14) hx hb hw u_Model t_Model kt_Model kf_Model hown hK hP hD hS 0 rfl rfl 5 (by decide) (hw (.fieldLink R_Model 16 "BindingKernelModel" "cached" "[I") (kb_all_in (List.mem_of_getElem? (i := 526) rfl) rfl)) (fun _ h9 => h9) rfl (by decide +kernel) rfl rfl (Nat.le_of_ble_eq_true rfl) dn_Model_26 (fun H locs hP hD hS => ?_)
  have hP : va_P D kb_cl [(h0, .inr (6, [.int 0, .int 0, .int 0, .ref q8, .ref q16, .ref q24, .null, .null, .null, .null, .null, .null, .null, .null])), (q8, .inl (cA 0, 288, .inl (fun _ => 0))), (q16, .inl (cA 0, 12, .inl (fun _ => 0))), (q24, .inl (cA 0, 6, .inl (fun _ => 0)))] H := hP
  have hD : va_D A [(h0, .inr (6, [.int 0, .int 0, .int 0, .ref q8, .ref q16, .ref q24, .null, .null, .null, .null, .null, .null, .null, .null])), (q8, .inl (cA 0, 288, .inl (fun _ => 0))), (q16, .inl (cA 0, 12, .inl (fun _ => 0))), (q24, .inl (cA 0, 6, .inl (fun _ => 0)))] := hD
  refine lv_aload_n hx hb dn_Model_29 rfl (lv_at hl 0 rfl) ?_
  refine lv_bipush (v := 6) hx hb dn_Model_30 (by decide) ?_
  refine kn_newa (atype := .boolean) (ty := .boolean) (f := fun _ => 0) (N' := 6) hx hb (hw (.arrayClass .boolean) (kb_all_in (List.mem_of_getElem? (i := 114) rfl) rfl)) rfl hK hP hD hS hA 1 rfl (fun _ => rfl) (by decide) (by decide) (by decide) (Nat.le_of_ble_eq_true rfl) (Nat.le_of_ble_eq_true rfl) dn_Model_32 (fun q32 H hP hD hS => ?_)
  have hP : va_P D kb_cl [(h0, .inr (6, [.int 0, .int 0, .int 0, .ref q8, .ref q16, .ref q24, .null, .null, .null, .null, .null, .null, .null, .null])), (q8, .inl (cA 0, 288, .inl (fun _ => 0))), (q16, .inl (cA 0, 12, .inl (fun _ => 0))), (q24, .inl (cA 0, 6, .inl (fun _ => 0))), (q32, .inl (cA 1, 6, .inl (fun _ => 0)))] H := hP
  have hD : va_D A [(h0, .inr (6, [.int 0, .int 0, .int 0, .ref q8, .ref q16, .ref q24, .null, .null, .null, .null, .null, .null, .null, .null])), (q8, .inl (cA 0, 288, .inl (fun _ => 0))), (q16, .inl (cA 0, 12, .inl (fun _ => 0))), (q24, .inl (cA 0, 6, .inl (fun _ => 0))), (q32, .inl (cA 1, 6, .inl (fun _ => 0)))] := hD
  refine W.widen (k := 4) (n := 312) (by decide) (by decide) ?_
  refine va_put (D := D) (ci := 6) (v := .ref q32) (ty := (.array .boolean)) (C := R_Model) (T := F_Model) (N := 14) hx hb hw u_Model t_Model kt_Model kf_Model hown hK hP hD hS 0 rfl rfl 6 (by decide) (hw (.fieldLink R_Model 19 "BindingKernelModel" "changed" "[Z") (kb_all_in (List.mem_of_getElem? (i := 527) rfl) rfl)) (fun _ h9 => h9) rfl (by decide +kernel) rfl rfl (Nat.le_of_ble_eq_true rfl) dn_Model_34 (fun H locs hP hD hS => ?_)
  have hP : va_P D kb_cl [(h0, .inr (6, [.int 0, .int 0, .int 0, .ref q8, .ref q16, .ref q24, .ref q32, .null, .null, .null, .null, .null, .null, .null])), (q8, .inl (cA 0, 288, .inl (fun _ => 0))), (q16, .inl (cA 0, 12, .inl (fun _ => 0))), (q24, .inl (cA 0, 6, .inl (fun _ => 0))), (q32, .inl (cA 1, 6, .inl (fun _ => 0)))] H := hP
  have hD : va_D A [(h0, .inr (6, [.int 0, .int 0, .int 0, .ref q8, .ref q16, .ref q24, .ref q32, .null, .null, .null, .null, .null, .null, .null])), (q8, .inl (cA 0, 288, .inl (fun _ => 0))), (q16, .inl (cA 0, 12, .inl (fun _ => 0))), (q24, .inl (cA 0, 6, .inl (fun _ => 0))), (q32, .inl (cA 1, 6, .inl (fun _ => 0)))] := hD
  refine lv_aload_n hx hb dn_Model_37 rfl (lv_at hl 0 rfl) ?_
  refine lv_iconst (v := 2) hx hb dn_Model_38 (by decide) ?_
  refine kn_newa (atype := .int) (ty := .int) (f := fun _ => 0) (N' := 2) hx hb (hw (.arrayClass .int) (kb_all_in (List.mem_of_getElem? (i := 81) rfl) rfl)) rfl hK hP hD hS hA 0 rfl (fun _ => rfl) (by decide) (by decide) (by decide) (Nat.le_of_ble_eq_true rfl) (Nat.le_of_ble_eq_true rfl) dn_Model_39 (fun q39 H hP hD hS => ?_)
  have hP : va_P D kb_cl [(h0, .inr (6, [.int 0, .int 0, .int 0, .ref q8, .ref q16, .ref q24, .ref q32, .null, .null, .null, .null, .null, .null, .null])), (q8, .inl (cA 0, 288, .inl (fun _ => 0))), (q16, .inl (cA 0, 12, .inl (fun _ => 0))), (q24, .inl (cA 0, 6, .inl (fun _ => 0))), (q32, .inl (cA 1, 6, .inl (fun _ => 0))), (q39, .inl (cA 0, 2, .inl (fun _ => 0)))] H := hP
  have hD : va_D A [(h0, .inr (6, [.int 0, .int 0, .int 0, .ref q8, .ref q16, .ref q24, .ref q32, .null, .null, .null, .null, .null, .null, .null])), (q8, .inl (cA 0, 288, .inl (fun _ => 0))), (q16, .inl (cA 0, 12, .inl (fun _ => 0))), (q24, .inl (cA 0, 6, .inl (fun _ => 0))), (q32, .inl (cA 1, 6, .inl (fun _ => 0))), (q39, .inl (cA 0, 2, .inl (fun _ => 0)))] := hD
  refine W.widen (k := 5) (n := 314) (by decide) (by decide) ?_
  refine va_put (D := D) (ci := 6) (v := .ref q39) (ty := (.array .int)) (C := R_Model) (T := F_Model) (N := 14) hx hb hw u_Model t_Model kt_Model kf_Model hown hK hP hD hS 0 rfl rfl 7 (by decide) (hw (.fieldLink R_Model 23 "BindingKernelModel" "frames" "[I") (kb_all_in (List.mem_of_getElem? (i := 528) rfl) rfl)) (fun _ h9 => h9) rfl (by decide +kernel) rfl rfl (Nat.le_of_ble_eq_true rfl) dn_Model_41 (fun H locs hP hD hS => ?_)
  have hP : va_P D kb_cl [(h0, .inr (6, [.int 0, .int 0, .int 0, .ref q8, .ref q16, .ref q24, .ref q32, .ref q39, .null, .null, .null, .null, .null, .null])), (q8, .inl (cA 0, 288, .inl (fun _ => 0))), (q16, .inl (cA 0, 12, .inl (fun _ => 0))), (q24, .inl (cA 0, 6, .inl (fun _ => 0))), (q32, .inl (cA 1, 6, .inl (fun _ => 0))), (q39, .inl (cA 0, 2, .inl (fun _ => 0)))] H := hP
  have hD : va_D A [(h0, .inr (6, [.int 0, .int 0, .int 0, .ref q8, .ref q16, .ref q24, .ref q32, .ref q39, .null, .null, .null, .null, .null, .null])), (q8, .inl (cA 0, 288, .inl (fun _ => 0))), (q16, .inl (cA 0, 12, .inl (fun _ => 0))), (q24, .inl (cA 0, 6, .inl (fun _ => 0))), (q32, .inl (cA 1, 6, .inl (fun _ => 0))), (q39, .inl (cA 0, 2, .inl (fun _ => 0)))] := hD
  refine lv_aload_n hx hb dn_Model_44 rfl (lv_at hl 0 rfl) ?_
  refine lv_iconst (v := 2) hx hb dn_Model_45 (by decide) ?_
  refine kn_newa (atype := .int) (ty := .int) (f := fun _ => 0) (N' := 2) hx hb (hw (.arrayClass .int) (kb_all_in (List.mem_of_getElem? (i := 81) rfl) rfl)) rfl hK hP hD hS hA 0 rfl (fun _ => rfl) (by decide) (by decide) (by decide) (Nat.le_of_ble_eq_true rfl) (Nat.le_of_ble_eq_true rfl) dn_Model_46 (fun q46 H hP hD hS => ?_)
  have hP : va_P D kb_cl [(h0, .inr (6, [.int 0, .int 0, .int 0, .ref q8, .ref q16, .ref q24, .ref q32, .ref q39, .null, .null, .null, .null, .null, .null])), (q8, .inl (cA 0, 288, .inl (fun _ => 0))), (q16, .inl (cA 0, 12, .inl (fun _ => 0))), (q24, .inl (cA 0, 6, .inl (fun _ => 0))), (q32, .inl (cA 1, 6, .inl (fun _ => 0))), (q39, .inl (cA 0, 2, .inl (fun _ => 0))), (q46, .inl (cA 0, 2, .inl (fun _ => 0)))] H := hP
  have hD : va_D A [(h0, .inr (6, [.int 0, .int 0, .int 0, .ref q8, .ref q16, .ref q24, .ref q32, .ref q39, .null, .null, .null, .null, .null, .null])), (q8, .inl (cA 0, 288, .inl (fun _ => 0))), (q16, .inl (cA 0, 12, .inl (fun _ => 0))), (q24, .inl (cA 0, 6, .inl (fun _ => 0))), (q32, .inl (cA 1, 6, .inl (fun _ => 0))), (q39, .inl (cA 0, 2, .inl (fun _ => 0))), (q46, .inl (cA 0, 2, .inl (fun _ => 0)))] := hD
  refine W.widen (k := 6) (n := 316) (by decide) (by decide) ?_
  refine va_put (D := D) (ci := 6) (v := .ref q46) (ty := (.array .int)) (C := R_Model) (T := F_Model) (N := 14) hx hb hw u_Model t_Model kt_Model kf_Model hown hK hP hD hS 0 rfl rfl 8 (by decide) (hw (.fieldLink R_Model 26 "BindingKernelModel" "bound" "[I") (kb_all_in (List.mem_of_getElem? (i := 529) rfl) rfl)) (fun _ h9 => h9) rfl (by decide +kernel) rfl rfl (Nat.le_of_ble_eq_true rfl) dn_Model_48 (fun H locs hP hD hS => ?_)
  have hP : va_P D kb_cl [(h0, .inr (6, [.int 0, .int 0, .int 0, .ref q8, .ref q16, .ref q24, .ref q32, .ref q39, .ref q46, .null, .null, .null, .null, .null])), (q8, .inl (cA 0, 288, .inl (fun _ => 0))), (q16, .inl (cA 0, 12, .inl (fun _ => 0))), (q24, .inl (cA 0, 6, .inl (fun _ => 0))), (q32, .inl (cA 1, 6, .inl (fun _ => 0))), (q39, .inl (cA 0, 2, .inl (fun _ => 0))), (q46, .inl (cA 0, 2, .inl (fun _ => 0)))] H := hP
  have hD : va_D A [(h0, .inr (6, [.int 0, .int 0, .int 0, .ref q8, .ref q16, .ref q24, .ref q32, .ref q39, .ref q46, .null, .null, .null, .null, .null])), (q8, .inl (cA 0, 288, .inl (fun _ => 0))), (q16, .inl (cA 0, 12, .inl (fun _ => 0))), (q24, .inl (cA 0, 6, .inl (fun _ => 0))), (q32, .inl (cA 1, 6, .inl (fun _ => 0))), (q39, .inl (cA 0, 2, .inl (fun _ => 0))), (q46, .inl (cA 0, 2, .inl (fun _ => 0)))] := hD
  refine lv_aload_n hx hb dn_Model_51 rfl (lv_at hl 0 rfl) ?_
  refine lv_iconst (v := 2) hx hb dn_Model_52 (by decide) ?_
  refine kn_newa (atype := .int) (ty := .int) (f := fun _ => 0) (N' := 2) hx hb (hw (.arrayClass .int) (kb_all_in (List.mem_of_getElem? (i := 81) rfl) rfl)) rfl hK hP hD hS hA 0 rfl (fun _ => rfl) (by decide) (by decide) (by decide) (Nat.le_of_ble_eq_true rfl) (Nat.le_of_ble_eq_true rfl) dn_Model_53 (fun q53 H hP hD hS => ?_)
  have hP : va_P D kb_cl [(h0, .inr (6, [.int 0, .int 0, .int 0, .ref q8, .ref q16, .ref q24, .ref q32, .ref q39, .ref q46, .null, .null, .null, .null, .null])), (q8, .inl (cA 0, 288, .inl (fun _ => 0))), (q16, .inl (cA 0, 12, .inl (fun _ => 0))), (q24, .inl (cA 0, 6, .inl (fun _ => 0))), (q32, .inl (cA 1, 6, .inl (fun _ => 0))), (q39, .inl (cA 0, 2, .inl (fun _ => 0))), (q46, .inl (cA 0, 2, .inl (fun _ => 0))), (q53, .inl (cA 0, 2, .inl (fun _ => 0)))] H := hP
  have hD : va_D A [(h0, .inr (6, [.int 0, .int 0, .int 0, .ref q8, .ref q16, .ref q24, .ref q32, .ref q39, .ref q46, .null, .null, .null, .null, .null])), (q8, .inl (cA 0, 288, .inl (fun _ => 0))), (q16, .inl (cA 0, 12, .inl (fun _ => 0))), (q24, .inl (cA 0, 6, .inl (fun _ => 0))), (q32, .inl (cA 1, 6, .inl (fun _ => 0))), (q39, .inl (cA 0, 2, .inl (fun _ => 0))), (q46, .inl (cA 0, 2, .inl (fun _ => 0))), (q53, .inl (cA 0, 2, .inl (fun _ => 0)))] := hD
  refine W.widen (k := 7) (n := 318) (by decide) (by decide) ?_
  refine va_put (D := D) (ci := 6) (v := .ref q53) (ty := (.array .int)) (C := R_Model) (T := F_Model) (N := 14) hx hb hw u_Model t_Model kt_Model kf_Model hown hK hP hD hS 0 rfl rfl 9 (by decide) (hw (.fieldLink R_Model 29 "BindingKernelModel" "lost" "[I") (kb_all_in (List.mem_of_getElem? (i := 530) rfl) rfl)) (fun _ h9 => h9) rfl (by decide +kernel) rfl rfl (Nat.le_of_ble_eq_true rfl) dn_Model_55 (fun H locs hP hD hS => ?_)
  have hP : va_P D kb_cl [(h0, .inr (6, [.int 0, .int 0, .int 0, .ref q8, .ref q16, .ref q24, .ref q32, .ref q39, .ref q46, .ref q53, .null, .null, .null, .null])), (q8, .inl (cA 0, 288, .inl (fun _ => 0))), (q16, .inl (cA 0, 12, .inl (fun _ => 0))), (q24, .inl (cA 0, 6, .inl (fun _ => 0))), (q32, .inl (cA 1, 6, .inl (fun _ => 0))), (q39, .inl (cA 0, 2, .inl (fun _ => 0))), (q46, .inl (cA 0, 2, .inl (fun _ => 0))), (q53, .inl (cA 0, 2, .inl (fun _ => 0)))] H := hP
  have hD : va_D A [(h0, .inr (6, [.int 0, .int 0, .int 0, .ref q8, .ref q16, .ref q24, .ref q32, .ref q39, .ref q46, .ref q53, .null, .null, .null, .null])), (q8, .inl (cA 0, 288, .inl (fun _ => 0))), (q16, .inl (cA 0, 12, .inl (fun _ => 0))), (q24, .inl (cA 0, 6, .inl (fun _ => 0))), (q32, .inl (cA 1, 6, .inl (fun _ => 0))), (q39, .inl (cA 0, 2, .inl (fun _ => 0))), (q46, .inl (cA 0, 2, .inl (fun _ => 0))), (q53, .inl (cA 0, 2, .inl (fun _ => 0)))] := hD
  refine lv_aload_n hx hb dn_Model_58 rfl (lv_at hl 0 rfl) ?_
  refine lv_bipush (v := 120) hx hb dn_Model_59 (by decide) ?_
  refine kn_newa (atype := .boolean) (ty := .boolean) (f := fun _ => 0) (N' := 120) hx hb (hw (.arrayClass .boolean) (kb_all_in (List.mem_of_getElem? (i := 114) rfl) rfl)) rfl hK hP hD hS hA 1 rfl (fun _ => rfl) (by decide) (by decide) (by decide) (Nat.le_of_ble_eq_true rfl) (Nat.le_of_ble_eq_true rfl) dn_Model_61 (fun q61 H hP hD hS => ?_)
  have hP : va_P D kb_cl [(h0, .inr (6, [.int 0, .int 0, .int 0, .ref q8, .ref q16, .ref q24, .ref q32, .ref q39, .ref q46, .ref q53, .null, .null, .null, .null])), (q8, .inl (cA 0, 288, .inl (fun _ => 0))), (q16, .inl (cA 0, 12, .inl (fun _ => 0))), (q24, .inl (cA 0, 6, .inl (fun _ => 0))), (q32, .inl (cA 1, 6, .inl (fun _ => 0))), (q39, .inl (cA 0, 2, .inl (fun _ => 0))), (q46, .inl (cA 0, 2, .inl (fun _ => 0))), (q53, .inl (cA 0, 2, .inl (fun _ => 0))), (q61, .inl (cA 1, 120, .inl (fun _ => 0)))] H := hP
  have hD : va_D A [(h0, .inr (6, [.int 0, .int 0, .int 0, .ref q8, .ref q16, .ref q24, .ref q32, .ref q39, .ref q46, .ref q53, .null, .null, .null, .null])), (q8, .inl (cA 0, 288, .inl (fun _ => 0))), (q16, .inl (cA 0, 12, .inl (fun _ => 0))), (q24, .inl (cA 0, 6, .inl (fun _ => 0))), (q32, .inl (cA 1, 6, .inl (fun _ => 0))), (q39, .inl (cA 0, 2, .inl (fun _ => 0))), (q46, .inl (cA 0, 2, .inl (fun _ => 0))), (q53, .inl (cA 0, 2, .inl (fun _ => 0))), (q61, .inl (cA 1, 120, .inl (fun _ => 0)))] := hD
  refine W.widen (k := 8) (n := 438) (by decide) (by decide) ?_
  refine va_put (D := D) (ci := 6) (v := .ref q61) (ty := (.array .boolean)) (C := R_Model) (T := F_Model) (N := 14) hx hb hw u_Model t_Model kt_Model kf_Model hown hK hP hD hS 0 rfl rfl 10 (by decide) (hw (.fieldLink R_Model 32 "BindingKernelModel" "isBlock" "[Z") (kb_all_in (List.mem_of_getElem? (i := 531) rfl) rfl)) (fun _ h9 => h9) rfl (by decide +kernel) rfl rfl (Nat.le_of_ble_eq_true rfl) dn_Model_63 (fun H locs hP hD hS => ?_)
  have hP : va_P D kb_cl [(h0, .inr (6, [.int 0, .int 0, .int 0, .ref q8, .ref q16, .ref q24, .ref q32, .ref q39, .ref q46, .ref q53, .ref q61, .null, .null, .null])), (q8, .inl (cA 0, 288, .inl (fun _ => 0))), (q16, .inl (cA 0, 12, .inl (fun _ => 0))), (q24, .inl (cA 0, 6, .inl (fun _ => 0))), (q32, .inl (cA 1, 6, .inl (fun _ => 0))), (q39, .inl (cA 0, 2, .inl (fun _ => 0))), (q46, .inl (cA 0, 2, .inl (fun _ => 0))), (q53, .inl (cA 0, 2, .inl (fun _ => 0))), (q61, .inl (cA 1, 120, .inl (fun _ => 0)))] H := hP
  have hD : va_D A [(h0, .inr (6, [.int 0, .int 0, .int 0, .ref q8, .ref q16, .ref q24, .ref q32, .ref q39, .ref q46, .ref q53, .ref q61, .null, .null, .null])), (q8, .inl (cA 0, 288, .inl (fun _ => 0))), (q16, .inl (cA 0, 12, .inl (fun _ => 0))), (q24, .inl (cA 0, 6, .inl (fun _ => 0))), (q32, .inl (cA 1, 6, .inl (fun _ => 0))), (q39, .inl (cA 0, 2, .inl (fun _ => 0))), (q46, .inl (cA 0, 2, .inl (fun _ => 0))), (q53, .inl (cA 0, 2, .inl (fun _ => 0))), (q61, .inl (cA 1, 120, .inl (fun _ => 0)))] := hD
  refine lv_aload_n hx hb dn_Model_66 rfl (lv_at hl 0 rfl) ?_
  refine lv_bipush (v := 120) hx hb dn_Model_67 (by decide) ?_
  refine kn_newa (atype := .int) (ty := .int) (f := fun _ => 0) (N' := 120) hx hb (hw (.arrayClass .int) (kb_all_in (List.mem_of_getElem? (i := 81) rfl) rfl)) rfl hK hP hD hS hA 0 rfl (fun _ => rfl) (by decide) (by decide) (by decide) (Nat.le_of_ble_eq_true rfl) (Nat.le_of_ble_eq_true rfl) dn_Model_69 (fun q69 H hP hD hS => ?_)
  have hP : va_P D kb_cl [(h0, .inr (6, [.int 0, .int 0, .int 0, .ref q8, .ref q16, .ref q24, .ref q32, .ref q39, .ref q46, .ref q53, .ref q61, .null, .null, .null])), (q8, .inl (cA 0, 288, .inl (fun _ => 0))), (q16, .inl (cA 0, 12, .inl (fun _ => 0))), (q24, .inl (cA 0, 6, .inl (fun _ => 0))), (q32, .inl (cA 1, 6, .inl (fun _ => 0))), (q39, .inl (cA 0, 2, .inl (fun _ => 0))), (q46, .inl (cA 0, 2, .inl (fun _ => 0))), (q53, .inl (cA 0, 2, .inl (fun _ => 0))), (q61, .inl (cA 1, 120, .inl (fun _ => 0))), (q69, .inl (cA 0, 120, .inl (fun _ => 0)))] H := hP
  have hD : va_D A [(h0, .inr (6, [.int 0, .int 0, .int 0, .ref q8, .ref q16, .ref q24, .ref q32, .ref q39, .ref q46, .ref q53, .ref q61, .null, .null, .null])), (q8, .inl (cA 0, 288, .inl (fun _ => 0))), (q16, .inl (cA 0, 12, .inl (fun _ => 0))), (q24, .inl (cA 0, 6, .inl (fun _ => 0))), (q32, .inl (cA 1, 6, .inl (fun _ => 0))), (q39, .inl (cA 0, 2, .inl (fun _ => 0))), (q46, .inl (cA 0, 2, .inl (fun _ => 0))), (q53, .inl (cA 0, 2, .inl (fun _ => 0))), (q61, .inl (cA 1, 120, .inl (fun _ => 0))), (q69, .inl (cA 0, 120, .inl (fun _ => 0)))] := hD
  refine W.widen (k := 9) (n := 558) (by decide) (by decide) ?_
  refine va_put (D := D) (ci := 6) (v := .ref q69) (ty := (.array .int)) (C := R_Model) (T := F_Model) (N := 14) hx hb hw u_Model t_Model kt_Model kf_Model hown hK hP hD hS 0 rfl rfl 11 (by decide) (hw (.fieldLink R_Model 35 "BindingKernelModel" "state" "[I") (kb_all_in (List.mem_of_getElem? (i := 532) rfl) rfl)) (fun _ h9 => h9) rfl (by decide +kernel) rfl rfl (Nat.le_of_ble_eq_true rfl) dn_Model_71 (fun H locs hP hD hS => ?_)
  have hP : va_P D kb_cl [(h0, .inr (6, [.int 0, .int 0, .int 0, .ref q8, .ref q16, .ref q24, .ref q32, .ref q39, .ref q46, .ref q53, .ref q61, .ref q69, .null, .null])), (q8, .inl (cA 0, 288, .inl (fun _ => 0))), (q16, .inl (cA 0, 12, .inl (fun _ => 0))), (q24, .inl (cA 0, 6, .inl (fun _ => 0))), (q32, .inl (cA 1, 6, .inl (fun _ => 0))), (q39, .inl (cA 0, 2, .inl (fun _ => 0))), (q46, .inl (cA 0, 2, .inl (fun _ => 0))), (q53, .inl (cA 0, 2, .inl (fun _ => 0))), (q61, .inl (cA 1, 120, .inl (fun _ => 0))), (q69, .inl (cA 0, 120, .inl (fun _ => 0)))] H := hP
  have hD : va_D A [(h0, .inr (6, [.int 0, .int 0, .int 0, .ref q8, .ref q16, .ref q24, .ref q32, .ref q39, .ref q46, .ref q53, .ref q61, .ref q69, .null, .null])), (q8, .inl (cA 0, 288, .inl (fun _ => 0))), (q16, .inl (cA 0, 12, .inl (fun _ => 0))), (q24, .inl (cA 0, 6, .inl (fun _ => 0))), (q32, .inl (cA 1, 6, .inl (fun _ => 0))), (q39, .inl (cA 0, 2, .inl (fun _ => 0))), (q46, .inl (cA 0, 2, .inl (fun _ => 0))), (q53, .inl (cA 0, 2, .inl (fun _ => 0))), (q61, .inl (cA 1, 120, .inl (fun _ => 0))), (q69, .inl (cA 0, 120, .inl (fun _ => 0)))] := hD
  refine lv_aload_n hx hb dn_Model_74 rfl (lv_at hl 0 rfl) ?_
  refine lv_bipush (v := 120) hx hb dn_Model_75 (by decide) ?_
  refine kn_newa (atype := .int) (ty := .int) (f := fun _ => 0) (N' := 120) hx hb (hw (.arrayClass .int) (kb_all_in (List.mem_of_getElem? (i := 81) rfl) rfl)) rfl hK hP hD hS hA 0 rfl (fun _ => rfl) (by decide) (by decide) (by decide) (Nat.le_of_ble_eq_true rfl) (Nat.le_of_ble_eq_true rfl) dn_Model_77 (fun q77 H hP hD hS => ?_)
  have hP : va_P D kb_cl [(h0, .inr (6, [.int 0, .int 0, .int 0, .ref q8, .ref q16, .ref q24, .ref q32, .ref q39, .ref q46, .ref q53, .ref q61, .ref q69, .null, .null])), (q8, .inl (cA 0, 288, .inl (fun _ => 0))), (q16, .inl (cA 0, 12, .inl (fun _ => 0))), (q24, .inl (cA 0, 6, .inl (fun _ => 0))), (q32, .inl (cA 1, 6, .inl (fun _ => 0))), (q39, .inl (cA 0, 2, .inl (fun _ => 0))), (q46, .inl (cA 0, 2, .inl (fun _ => 0))), (q53, .inl (cA 0, 2, .inl (fun _ => 0))), (q61, .inl (cA 1, 120, .inl (fun _ => 0))), (q69, .inl (cA 0, 120, .inl (fun _ => 0))), (q77, .inl (cA 0, 120, .inl (fun _ => 0)))] H := hP
  have hD : va_D A [(h0, .inr (6, [.int 0, .int 0, .int 0, .ref q8, .ref q16, .ref q24, .ref q32, .ref q39, .ref q46, .ref q53, .ref q61, .ref q69, .null, .null])), (q8, .inl (cA 0, 288, .inl (fun _ => 0))), (q16, .inl (cA 0, 12, .inl (fun _ => 0))), (q24, .inl (cA 0, 6, .inl (fun _ => 0))), (q32, .inl (cA 1, 6, .inl (fun _ => 0))), (q39, .inl (cA 0, 2, .inl (fun _ => 0))), (q46, .inl (cA 0, 2, .inl (fun _ => 0))), (q53, .inl (cA 0, 2, .inl (fun _ => 0))), (q61, .inl (cA 1, 120, .inl (fun _ => 0))), (q69, .inl (cA 0, 120, .inl (fun _ => 0))), (q77, .inl (cA 0, 120, .inl (fun _ => 0)))] := hD
  refine W.widen (k := 10) (n := 678) (by decide) (by decide) ?_
  refine va_put (D := D) (ci := 6) (v := .ref q77) (ty := (.array .int)) (C := R_Model) (T := F_Model) (N := 14) hx hb hw u_Model t_Model kt_Model kf_Model hown hK hP hD hS 0 rfl rfl 12 (by decide) (hw (.fieldLink R_Model 38 "BindingKernelModel" "deadline" "[I") (kb_all_in (List.mem_of_getElem? (i := 533) rfl) rfl)) (fun _ h9 => h9) rfl (by decide +kernel) rfl rfl (Nat.le_of_ble_eq_true rfl) dn_Model_79 (fun H locs hP hD hS => ?_)
  have hP : va_P D kb_cl [(h0, .inr (6, [.int 0, .int 0, .int 0, .ref q8, .ref q16, .ref q24, .ref q32, .ref q39, .ref q46, .ref q53, .ref q61, .ref q69, .ref q77, .null])), (q8, .inl (cA 0, 288, .inl (fun _ => 0))), (q16, .inl (cA 0, 12, .inl (fun _ => 0))), (q24, .inl (cA 0, 6, .inl (fun _ => 0))), (q32, .inl (cA 1, 6, .inl (fun _ => 0))), (q39, .inl (cA 0, 2, .inl (fun _ => 0))), (q46, .inl (cA 0, 2, .inl (fun _ => 0))), (q53, .inl (cA 0, 2, .inl (fun _ => 0))), (q61, .inl (cA 1, 120, .inl (fun _ => 0))), (q69, .inl (cA 0, 120, .inl (fun _ => 0))), (q77, .inl (cA 0, 120, .inl (fun _ => 0)))] H := hP
  have hD : va_D A [(h0, .inr (6, [.int 0, .int 0, .int 0, .ref q8, .ref q16, .ref q24, .ref q32, .ref q39, .ref q46, .ref q53, .ref q61, .ref q69, .ref q77, .null])), (q8, .inl (cA 0, 288, .inl (fun _ => 0))), (q16, .inl (cA 0, 12, .inl (fun _ => 0))), (q24, .inl (cA 0, 6, .inl (fun _ => 0))), (q32, .inl (cA 1, 6, .inl (fun _ => 0))), (q39, .inl (cA 0, 2, .inl (fun _ => 0))), (q46, .inl (cA 0, 2, .inl (fun _ => 0))), (q53, .inl (cA 0, 2, .inl (fun _ => 0))), (q61, .inl (cA 1, 120, .inl (fun _ => 0))), (q69, .inl (cA 0, 120, .inl (fun _ => 0))), (q77, .inl (cA 0, 120, .inl (fun _ => 0)))] := hD
  refine lv_aload_n hx hb dn_Model_82 rfl (lv_at hl 0 rfl) ?_
  refine lv_sipush (v := 480) hx hb dn_Model_83 (by decide) ?_
  refine kn_newa (atype := .int) (ty := .int) (f := fun _ => 0) (N' := 480) hx hb (hw (.arrayClass .int) (kb_all_in (List.mem_of_getElem? (i := 81) rfl) rfl)) rfl hK hP hD hS hA 0 rfl (fun _ => rfl) (by decide) (by decide) (by decide) (Nat.le_of_ble_eq_true rfl) (Nat.le_of_ble_eq_true rfl) dn_Model_86 (fun q86 H hP hD hS => ?_)
  have hP : va_P D kb_cl [(h0, .inr (6, [.int 0, .int 0, .int 0, .ref q8, .ref q16, .ref q24, .ref q32, .ref q39, .ref q46, .ref q53, .ref q61, .ref q69, .ref q77, .null])), (q8, .inl (cA 0, 288, .inl (fun _ => 0))), (q16, .inl (cA 0, 12, .inl (fun _ => 0))), (q24, .inl (cA 0, 6, .inl (fun _ => 0))), (q32, .inl (cA 1, 6, .inl (fun _ => 0))), (q39, .inl (cA 0, 2, .inl (fun _ => 0))), (q46, .inl (cA 0, 2, .inl (fun _ => 0))), (q53, .inl (cA 0, 2, .inl (fun _ => 0))), (q61, .inl (cA 1, 120, .inl (fun _ => 0))), (q69, .inl (cA 0, 120, .inl (fun _ => 0))), (q77, .inl (cA 0, 120, .inl (fun _ => 0))), (q86, .inl (cA 0, 480, .inl (fun _ => 0)))] H := hP
  have hD : va_D A [(h0, .inr (6, [.int 0, .int 0, .int 0, .ref q8, .ref q16, .ref q24, .ref q32, .ref q39, .ref q46, .ref q53, .ref q61, .ref q69, .ref q77, .null])), (q8, .inl (cA 0, 288, .inl (fun _ => 0))), (q16, .inl (cA 0, 12, .inl (fun _ => 0))), (q24, .inl (cA 0, 6, .inl (fun _ => 0))), (q32, .inl (cA 1, 6, .inl (fun _ => 0))), (q39, .inl (cA 0, 2, .inl (fun _ => 0))), (q46, .inl (cA 0, 2, .inl (fun _ => 0))), (q53, .inl (cA 0, 2, .inl (fun _ => 0))), (q61, .inl (cA 1, 120, .inl (fun _ => 0))), (q69, .inl (cA 0, 120, .inl (fun _ => 0))), (q77, .inl (cA 0, 120, .inl (fun _ => 0))), (q86, .inl (cA 0, 480, .inl (fun _ => 0)))] := hD
  refine W.widen (k := 11) (n := 1158) (by decide) (by decide) ?_
  refine va_put (D := D) (ci := 6) (v := .ref q86) (ty := (.array .int)) (C := R_Model) (T := F_Model) (N := 14) hx hb hw u_Model t_Model kt_Model kf_Model hown hK hP hD hS 0 rfl rfl 13 (by decide) (hw (.fieldLink R_Model 41 "BindingKernelModel" "held" "[I") (kb_all_in (List.mem_of_getElem? (i := 534) rfl) rfl)) (fun _ h9 => h9) rfl (by decide +kernel) rfl rfl (Nat.le_of_ble_eq_true rfl) dn_Model_88 (fun H locs hP hD hS => ?_)
  have hP : va_P D kb_cl [(h0, .inr (6, [.int 0, .int 0, .int 0, .ref q8, .ref q16, .ref q24, .ref q32, .ref q39, .ref q46, .ref q53, .ref q61, .ref q69, .ref q77, .ref q86])), (q8, .inl (cA 0, 288, .inl (fun _ => 0))), (q16, .inl (cA 0, 12, .inl (fun _ => 0))), (q24, .inl (cA 0, 6, .inl (fun _ => 0))), (q32, .inl (cA 1, 6, .inl (fun _ => 0))), (q39, .inl (cA 0, 2, .inl (fun _ => 0))), (q46, .inl (cA 0, 2, .inl (fun _ => 0))), (q53, .inl (cA 0, 2, .inl (fun _ => 0))), (q61, .inl (cA 1, 120, .inl (fun _ => 0))), (q69, .inl (cA 0, 120, .inl (fun _ => 0))), (q77, .inl (cA 0, 120, .inl (fun _ => 0))), (q86, .inl (cA 0, 480, .inl (fun _ => 0)))] H := hP
  have hD : va_D A [(h0, .inr (6, [.int 0, .int 0, .int 0, .ref q8, .ref q16, .ref q24, .ref q32, .ref q39, .ref q46, .ref q53, .ref q61, .ref q69, .ref q77, .ref q86])), (q8, .inl (cA 0, 288, .inl (fun _ => 0))), (q16, .inl (cA 0, 12, .inl (fun _ => 0))), (q24, .inl (cA 0, 6, .inl (fun _ => 0))), (q32, .inl (cA 1, 6, .inl (fun _ => 0))), (q39, .inl (cA 0, 2, .inl (fun _ => 0))), (q46, .inl (cA 0, 2, .inl (fun _ => 0))), (q53, .inl (cA 0, 2, .inl (fun _ => 0))), (q61, .inl (cA 1, 120, .inl (fun _ => 0))), (q69, .inl (cA 0, 120, .inl (fun _ => 0))), (q77, .inl (cA 0, 120, .inl (fun _ => 0))), (q86, .inl (cA 0, 480, .inl (fun _ => 0)))] := hD
  have hP : va_P D kb_cl [(h0, .inr (6, [.int 0, .int 0, .int 0, .ref q8, .ref q16, .ref q24, .ref q32, .ref q39, .ref q46, .ref q53, .ref q61, .ref q69, .ref q77, .ref q86])), (q8, .inl (cA 0, 288, .inl (fun _ => 0))), (q16, .inl (cA 0, 12, .inl (fun _ => 0))), (q24, .inl (cA 0, 6, .inl (fun _ => 0))), (q32, .inl (cA 1, 6, .inl (fun _ => 0))), (q39, .inl (cA 0, 2, .inl (fun _ => 0))), (q46, .inl (cA 0, 2, .inl (fun _ => 0))), (q53, .inl (cA 0, 2, .inl (fun _ => 0))), (q61, .inl (cA 1, 120, .inl (fun _ => 0))), (q69, .inl (cA 0, 120, .inl (fun _ => 0))), (q77, .inl (cA 0, 120, .inl (fun _ => 0))), (q86, .inl (cA 0, 480, .inl (fun _ => 0)))] H := hP
  have hD : va_D A [(h0, .inr (6, [.int 0, .int 0, .int 0, .ref q8, .ref q16, .ref q24, .ref q32, .ref q39, .ref q46, .ref q53, .ref q61, .ref q69, .ref q77, .ref q86])), (q8, .inl (cA 0, 288, .inl (fun _ => 0))), (q16, .inl (cA 0, 12, .inl (fun _ => 0))), (q24, .inl (cA 0, 6, .inl (fun _ => 0))), (q32, .inl (cA 1, 6, .inl (fun _ => 0))), (q39, .inl (cA 0, 2, .inl (fun _ => 0))), (q46, .inl (cA 0, 2, .inl (fun _ => 0))), (q53, .inl (cA 0, 2, .inl (fun _ => 0))), (q61, .inl (cA 1, 120, .inl (fun _ => 0))), (q69, .inl (cA 0, 120, .inl (fun _ => 0))), (q77, .inl (cA 0, 120, .inl (fun _ => 0))), (q86, .inl (cA 0, 480, .inl (fun _ => 0)))] := hD
  exact W.vret hx hb hr (fun t ht hW => ⟨⟨(fun k => [q8, q16, q24, q32, q39, q46, q53, q61, q69, q77, q86].getD k 0), rfl, trivial, by rw [ht]; exact kn_Psub hP [0, 1, 2, 3, 4, 5, 6, 7, 8, 9, 10, 11] rfl, va_K.moved hW.alike hK, hD.sub [0, 1, 2, 3, 4, 5, 6, 7, 8, 9, 10, 11] (by decide) rfl⟩, hS.F ht⟩) hS.2.2 dn_Model_91
end
