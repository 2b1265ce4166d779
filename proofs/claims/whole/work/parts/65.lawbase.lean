/-! THE CLAIM OUT OF ONE WALK OF THE LAW'S BODY. Your part is whole_start (and what it stands on); all else here is the same for every law, but numbers. -/
def R_law : String := "BindingKernelLaw"
def lw_P (b : Addr) (xs : List Int32) (args : Array Value) (s : State) : Prop := args = #[.ref b] ∧ s.IntsAt b xs ∧ xs.length ≤ 2560 ∧ (Jvm.Cond.and given_1 narrow_1).before args s = true
def lw_Q (_ : Array Value) (s : State) (o : Outcome) (t : State) : Prop := o = .returned (some (.int 1)) ∧ Framed s o t [] 600000 7302249
def lw_Z (below : List Frame) (a : Array Value) (s : State) : State → Prop := fun t => ∃ o, t.status = .running ∧ Ended t below o ∧ lw_Q a s o t
/-- the law's own end, with 1 on the stack, nothing written that was there before, its room as the claim has it -/
theorem lw_ret {p : Program} {l : Launch} {e : Env} {s : State} {m : MethodId} {below : List Frame} {meth : Method} {c : Code} {b : Nat} (hx : p.tables.exec = Jvm.exec) (hb : c.code = code) (hr : meth.sig.returnType = ret) (hlocks : meth.locks = false) {pc : Nat} {H : Heap} {ls : Array Slot} (hdg : decode code pc = .ok (.ireturn, 1)) : W p l e room_1 s m #[Value.ref b] below meth c H [] 600000 7302249 (lw_Z below #[Value.ref b] s) (F0 m pc ls [.int 1]) := by
  intro T hT X
  obtain ⟨fs, hret, hrun, hended, hW, hframe⟩ := X.leave (v := some (.int 1)) (hlocks := hlocks) (fun h => by rw [hr] at h; cases h)
  have hmeth' : T.vm.method? m = some meth := X.method'
  refine ⟨T.setFrames fs, ?_, .returned (some (.int 1)), hrun, hended, rfl, ⟨_, rfl⟩, hW, hframe⟩
  jvm_step X.here [X.here.top, hx, hb, hdg, hmeth', hr, ret, narrow_b1]
  (try refine ⟨rfl, ?_⟩); (try refine ⟨rfl, ?_⟩)
  first | (intro acts; rw [hret _ acts rfl rfl rfl]) | rw [hret _ _ rfl rfl rfl]
  exact Steps.refl _
/-- what holds at the law's entry: the machine, the code, the tables' words (any of lw_tbl by 'hts w (by decide +kernel)'), the script of L ints xs at the cell b, what the Statement gives of the start (any of its parts by flat_of_before) -/
def lw_At (p : Program) (s : State) (m : MethodId) (meth : Method) (c : Code) (b L : Nat) (xs : Nat → Int32) : Prop :=
  p.tables.exec = Jvm.exec ∧ c.code = code ∧ meth.sig.returnType = ret ∧ c.maxLocals = 4 ∧ s.vm.findClass R_law = some m.cls ∧ (∀ w ∈ lw_tbl, w.before #[Value.ref b] s = true) ∧ va_X b L xs s s.heap ∧ b < s.heap.size ∧ meth.locks = false ∧ (Jvm.Cond.and given_1 narrow_1).before #[Value.ref b] s = true
/-! the law: its turn -/
theorem kw_and (x : Int32) : ∃ j : Nat, j < 32 ∧ x &&& 31 = nI j := by
  refine ⟨(x &&& 31).toBitVec.toNat, ?_, ?_⟩
  · rw [Int32.toBitVec_and, BitVec.toNat_and]
    have h : x.toBitVec.toNat &&& (31 : Int32).toBitVec.toNat ≤ (31 : Int32).toBitVec.toNat := Nat.and_le_right
    have e : (31 : Int32).toBitVec.toNat = 31 := by decide
    rw [e] at h ⊢
    omega
  · apply Int32.toBitVec_inj.mp
    show (x &&& 31).toBitVec = BitVec.ofNat 32 (x &&& 31).toBitVec.toNat
    exact BitVec.eq_of_toNat_eq (by rw [BitVec.toNat_ofNat, Nat.mod_eq_of_lt (BitVec.isLt _)])
section KW
variable {p : Program} {l : Launch} {e : Env} {s : State} {m : MethodId} {below : List Frame} {meth : Method} {c : Code} {args : Array Value} {D : va_G} {ad : Nat → Nat} {cA : Nat → ClassId} {b L i : Nat} {xs : Nat → Int32} {H : Heap} {locs : List Loc} {cells slots : Nat} {Q : State → Prop} {ls : Array Slot} {st : List Value} {pc : Nat}
/-- what stays over the law's loop -/
def kw_C (p : Program) (s : State) (m : MethodId) (c : Code) (args : Array Value) (D : va_G) (ad : Nat → Nat) (cA : Nat → ClassId) (b L : Nat) (xs : Nat → Int32) : Prop := CallFix p m c code 4 s args kb_all R_law ∧ va_K D kb_cl (kb_ty cA) s ∧ kb_inj ad ∧ va_X b L xs s s.heap ∧ b < s.heap.size ∧ (∀ q, kb_A ad q → s.heap.size ≤ q) ∧ L ≤ 2560
abbrev kw_lo (ad : Nat → Nat) (b i : Nat) : List (Nat × Value) := [(0, .ref b), (1, .ref (ad 0)), (2, .ref (ad 33)), (3, .int (nI i))]
/-- one word of the script -/
theorem kw_arg (C : kw_C p s m c args D ad cA b L xs) {k : Int} {j : Nat} (hj : Int32.ofInt k = nI j) (d0 : decode code pc = .ok (.aload_n 0, 1)) (d1 : decode code (pc + 1) = .ok (.iload_n 3, 1)) (d2 : decode code (pc + 1 + 1) = .ok (.iconst k, 1)) (d3 : decode code (pc + 1 + 1 + 1) = .ok (.iadd, 1)) (d4 : decode code (pc + 1 + 1 + 1 + 1) = .ok (.iaload, 1)) (hl : lv_has ls 4 (kw_lo ad b i)) (hi : i + j < L) (hS : va_S (fun q => s.heap.size ≤ q) s.heap H locs)
    (kk : W p l e room_1 s m args below meth c H locs cells slots Q (F0 m (pc + 1 + 1 + 1 + 1 + 1) ls (.int (xs (i + j)) :: st))) : W p l e room_1 s m args below meth c H locs cells slots Q (F0 m pc ls st) := by
  obtain ⟨⟨hx, hb, hml, hown, hts⟩, hK, hinj, hX, hbl, hA, hL⟩ := C
  have hcl : (nI (i + j)).toNatClampNeg = i + j := nI_clamp (by omega)
  refine lv_aload_n hx hb d0 rfl (lv_at hl 0 rfl) ?_
  refine lv_iload_n hx hb d1 rfl (lv_at hl 3 rfl) ?_
  refine lv_iconst (v := nI j) hx hb d2 hj ?_
  refine lv_iadd hx hb d3 ?_
  rw [nI_add]
  refine va_sld hx hb hX hbl (show ¬ s.heap.size ≤ b by omega) hS (show vp_in (nI (i + j)) L from fun q => by
    rcases q with q | q
    · exact nI_pos (by omega) q
    · rw [hcl] at q
      omega) d4 ?_
  rw [hcl]
  exact kk
/-- a word that is a truth value -/
theorem kw_bool (C : kw_C p s m c args D ad cA b L xs) {x : Int32} {o0 o2 : Int} {t1 t2 : Nat} (d0 : decode code pc = .ok (.ifCond .eq o0, 3)) (h0 : (pc : Int) + o0 = (t1 : Int)) (d1 : decode code (pc + 3) = .ok (.iconst 1, 1)) (d2 : decode code (pc + 3 + 1) = .ok (.goto o2, 3)) (h2 : ((pc + 3 + 1 : Nat) : Int) + o2 = (t2 : Int)) (d3 : decode code t1 = .ok (.iconst 0, 1)) (h3 : t1 + 1 = t2)
    (kk : W p l e room_1 s m args below meth c H locs cells slots Q (F0 m t2 ls (.int (nI (if x = 0 then 0 else 1)) :: st))) : W p l e room_1 s m args below meth c H locs cells slots Q (F0 m pc ls (.int x :: st)) := by
  obtain ⟨⟨hx, hb, hml, hown, hts⟩, -⟩ := C
  subst h3
  refine lv_if_eq hx hb d0 h0 (fun h => ?_) (fun h => ?_)
  · rw [if_pos h] at kk
    exact lv_iconst (v := nI 0) hx hb d3 (by decide) kk
  · rw [if_neg h] at kk
    exact lv_iconst (v := nI 1) hx hb d1 (by decide) (lv_goto hx hb d2 h2 kk)
/-- a call of the class or of the reference -/
theorem kw_inv (C : kw_C p s m c args D ad cA b L xs) {z c0 index : Nat} {as : List Int32} {v : Int32} {M M1 : kb_M} {fs : List (Option (Option Nat))} {rest st0 : List Value} (hE : kb_E (kb_en z (.inr (some c0) :: as.map .inl) M) (fun q => q = (some (.inl v), M1))) (hz : kb_iP (kb_me z)) (hlk : Cond.methodLink R_law index (kb_nm z) ∈ kb_all) (hc : kb_cel c0 = some (.inr (kb_o z, fs))) (hn : as.length = kb_np z) (hroom : kb_fr z + 1 ≤ room_1.frames ∧ 8 + (kb_mL z + 11) + kb_lo z ≤ room_1.locals) (hrest : (rest.map fun v => v.category).sum ≤ 8) (hf : cells + 0 ≤ room_1.cells ∧ slots + 0 ≤ room_1.slots) (hst : st0 = ((as.map .inl).map (kb_tv ad)).reverse ++ .ref (ad c0) :: rest) (hdg : decode code pc = .ok (.invokevirtual index, 3)) (hls : ls.size = 4) (hP : va_P D kb_cl (kb_w ad cA M) H) (hS : va_S (fun q => s.heap.size ≤ q) s.heap H locs)
    (kk : ∀ (H1 : Heap) (locs1 : List Loc), va_P D kb_cl (kb_w ad cA M1) H1 → va_S (fun q => s.heap.size ≤ q) s.heap H1 locs1 → W p l e room_1 s m args below meth c H1 locs1 cells slots Q (F0 m (pc + 3) ls (.int v :: rest))) : W p l e room_1 s m args below meth c H locs cells slots Q (F0 m pc ls st0) := by
  obtain ⟨F, hK, hinj, hX, hbl, hA, hL⟩ := C
  obtain ⟨⟨hini, hcode, hmh, hvh, hpar, hpl⟩, hin, hse, hml, T, n, hcl⟩ := hz
  have hM := kb_sound (l := l) (D := D) (cA := cA) hpl hinj (show (Sum.inr (some c0) :: as.map Sum.inl : List kb_v).length ≤ kb_mL z by
    rw [List.length_cons, List.length_map, hn]
    exact hml) hE
  have hg : ∀ w ∈ kb_all, w ∈ kb_all ∧ ((w.onTables && w.keeps) = true ∨ ∃ ty, w = .arrayClass ty) := fun w hw => ⟨hw, good_of_word (List.mem_filter.mp hw).2⟩
  have hcl : kb_cl[kb_o z]? = some ((kb_nm z).cls, T, n) := hcl
  have hrow : (kb_w ad cA M)[c0]? = some (ad c0, .inr (kb_o z, kb_fv ad (M c0) 0 fs)) := by rw [kb_w_at (kb_celO hc), kb_ce_o hc]
  refine kb_callg (va_runV (As := (as.map .inl).map (kb_tv ad)) (rest := rest) (C := (kb_nm z).cls) (b := ad c0) F hM (cwV (kb_np z) F.2.2.2.2 ?_ rfl rfl rfl ⟨rfl, hmh, hvh, hpar⟩ hroom) ⟨kb_blind, va_recv hK hP hcl hrow, fun U hU hW => ⟨rfl, by rw [hU]; exact hP, va_K.moved hW.alike hK⟩⟩ rfl (by rw [List.length_map, List.length_map]; exact hn) hls hst (lv_room hrest) hdg hf) hS hA hA (fun r1 H1 locs1 hr1 hP1 hS1 => ?_)
  · intro w hw
    rcases List.mem_append.mp hw with hw | hw
    · rcases List.mem_cons.mp hw with rfl | hw
      · exact hg _ hlk
      rcases List.mem_cons.mp hw with rfl | hw
      · exact hg _ hin
      rcases List.mem_cons.mp hw with rfl | hw
      · exact hg _ hse
      rcases List.mem_cons.mp hw with rfl | hw
      · exact hg _ hini
      · cases hw
    · rcases List.mem_cons.mp hw with rfl | hw
      · exact hg _ hcode
      · exact hg _ hw
  · subst hr1
    exact kk H1 locs1 hP1 hS1
end KW
/-- the machine at a place of the law's loop, with memory M behind both objects -/
def kw_At (p : Program) (l : Launch) (e : Env) (s : State) (m : MethodId) (below : List Frame) (meth : Method) (c : Code) (D : va_G) (ad : Nat → Nat) (cA : Nat → ClassId) (b i pc : Nat) (M : kb_M) : Prop := ∀ (ls : Array Slot) (H : Heap) (locs : List Loc), lv_has ls 4 (kw_lo ad b i) → va_P D kb_cl (kb_w ad cA M) H → va_S (fun q => s.heap.size ≤ q) s.heap H locs → W p l e room_1 s m #[Value.ref b] below meth c H locs 45 1993 (lw_Z below #[Value.ref b] s) (F0 m pc ls [])
