/-! small constructors (printed by wip/whole/gen_news.py) -/
set_option maxHeartbeats 4000000 in
set_option maxRecDepth 100000 in
theorem kn_Slot (l : Launch) (D : va_G) (cA : Nat → ClassId) (h0 sz : Nat) : kn_M l yn_Slot bn_Slot 1 ({ frames := 1, cells := 0, slots := 0, locals := 12 }) D cA [.ref h0] [(h0, .inr (5, [.int 0, .int 0, .int 0, .int 0]))] (fun _ => True) (fun u => [(h0, .inr (5, [.int (-1), .int (-1), .int 0, .int 0]))]) sz 0 0 := by
  refine Met.ofW (cc := bn_Slot) (maxL := 1) (ret := none) (by decide) rfl ?_
  intro p e s m args below meth c s₁ B hml hv
  obtain ⟨rfl, hsz, hP, hK, hD0, hE⟩ := hv
  have hx := B.exec
  have hb := B.bytes
  have hr := B.returns
  have hts := atoms_spec (ws := kn_wo yn_Slot bn_Slot 1) B.pre
  have hw : ∀ w ∈ kb_all, w.before _ s = true := fun w h => hts w (List.mem_cons_of_mem _ h)
  have hown : s.vm.findClass R_Slot = some m.cls := findClass_of_methodNamed B.named
  have hlocks := B.notSynchronized
  have hin : meth.name = "<init>" := (name_of_methodNamed B.named B.method).1
  subst hsz
  have hD := hD0.self (sz := s.heap.size)
  generalize hAe : va_A [(h0, .inr (5, [.int 0, .int 0, .int 0, .int 0]))] s.heap.size = A at hD ⊢
  have hA : ∀ q : Nat, s.heap.size ≤ q → A q := fun q h => by rw [← hAe]; exact Or.inr h
  have hS : va_S A s.heap s.heap [] := va_S.rf
  have hl := lv_entry ([.ref h0]) (n := 1) (Nat.le_of_ble_eq_true rfl)
  rw [lg_entry_eq]
  generalize (lg_sl ([.ref h0]) ++ List.replicate (1 - (lg_sl ([.ref h0])).length) Slot.unset).toArray = ls at hl ⊢
  have hl : lv_has ls 1 [(0, .ref h0)] := hl
  refine lv_aload_n hx hb dn_Slot_0 rfl (lv_at hl 0 rfl) ?_
  refine W.objInit hx hb hown (hw (.methodLink R_Slot 3 Lib.objectInit) (kb_all_in (List.mem_of_getElem? (i := 148) rfl) rfl)) (hw (.instanceMethod Lib.objectInit) (kb_all_in (List.mem_of_getElem? (i := 54) rfl) rfl)) (hw (.code Lib.objectInit ⟨#[0xb1]⟩ 1 none) (kb_all_in (List.mem_of_getElem? (i := 55) rfl) rfl)) rfl (by rw [hml]; exact hl.1) rfl dn_Slot_1 (Nat.le_of_ble_eq_true rfl) (Nat.le_of_ble_eq_true rfl) ?_
  refine W.eq (g2 := F0 m 4 ls []) rfl ?_
  refine lv_aload_n hx hb dn_Slot_4 rfl (lv_at hl 0 rfl) ?_
  refine lv_iconst (v := -1) hx hb dn_Slot_5 (by decide) ?_
  refine va_put (D := D) (ci := 5) (v := .int (-1)) (ty := .int) (C := R_Slot) (T := F_Slot) (N := 4) hx hb hw u_Slot t_Slot kt_Slot kf_Slot hown hK hP hD hS 0 rfl rfl 0 (by decide) (hw (.fieldLink R_Slot 9 "BindingKernel$Slot" "frame" "I") (kb_all_in (List.mem_of_getElem? (i := 149) rfl) rfl)) (fun _ h9 => h9) rfl (by decide +kernel) rfl rfl (Nat.le_of_ble_eq_true rfl) dn_Slot_6 (fun H locs hP hD hS => ?_)
  have hP : va_P D kb_cl [(h0, .inr (5, [.int (-1), .int 0, .int 0, .int 0]))] H := hP
  have hD : va_D A [(h0, .inr (5, [.int (-1), .int 0, .int 0, .int 0]))] := hD
  refine lv_aload_n hx hb dn_Slot_9 rfl (lv_at hl 0 rfl) ?_
  refine lv_iconst (v := -1) hx hb dn_Slot_10 (by decide) ?_
  refine va_put (D := D) (ci := 5) (v := .int (-1)) (ty := .int) (C := R_Slot) (T := F_Slot) (N := 4) hx hb hw u_Slot t_Slot kt_Slot kf_Slot hown hK hP hD hS 0 rfl rfl 1 (by decide) (hw (.fieldLink R_Slot 15 "BindingKernel$Slot" "part" "I") (kb_all_in (List.mem_of_getElem? (i := 151) rfl) rfl)) (fun _ h9 => h9) rfl (by decide +kernel) rfl rfl (Nat.le_of_ble_eq_true rfl) dn_Slot_11 (fun H locs hP hD hS => ?_)
  have hP : va_P D kb_cl [(h0, .inr (5, [.int (-1), .int (-1), .int 0, .int 0]))] H := hP
  have hD : va_D A [(h0, .inr (5, [.int (-1), .int (-1), .int 0, .int 0]))] := hD
  have hP : va_P D kb_cl [(h0, .inr (5, [.int (-1), .int (-1), .int 0, .int 0]))] H := hP
  have hD : va_D A [(h0, .inr (5, [.int (-1), .int (-1), .int 0, .int 0]))] := hD
  exact W.vret hx hb hr (fun t ht hW => ⟨⟨(fun k => [].getD k 0), rfl, trivial, by rw [ht]; exact kn_Psub hP [0] rfl, va_K.moved hW.alike hK, hD.sub [0] (by decide) rfl⟩, hS.F ht⟩) hS.2.2 dn_Slot_14
set_option maxHeartbeats 4000000 in
set_option maxRecDepth 100000 in
theorem kn_Pool12 (l : Launch) (D : va_G) (cA : Nat → ClassId) (h0 sz : Nat) : kn_M l yn_Pool bn_Pool 3 ({ frames := 1, cells := 2, slots := 60, locals := 23 }) D cA [.ref h0, .int 12, .int 3] [(h0, .inr (2, [.int 0, .null, .null]))] (fun _ => True) (fun u => [(h0, .inr (2, [.int 3, .ref (u 0), .ref (u 1)])), ((u 0), .inl (cA 0, 12, .inl (fun j => if j < 12 then (-1) else 0))), ((u 1), .inl (cA 0, 48, .inl (fun _ => 0)))]) sz 2 60 := by
  refine Met.ofW (cc := bn_Pool) (maxL := 3) (ret := none) (by decide) rfl ?_
  intro p e s m args below meth c s₁ B hml hv
  obtain ⟨rfl, hsz, hP, hK, hD0, hE⟩ := hv
  have hx := B.exec
  have hb := B.bytes
  have hr := B.returns
  have hts := atoms_spec (ws := kn_wo yn_Pool bn_Pool 3) B.pre
  have hw : ∀ w ∈ kb_all, w.before _ s = true := fun w h => hts w (List.mem_cons_of_mem _ h)
  have hown : s.vm.findClass R_Pool = some m.cls := findClass_of_methodNamed B.named
  have hlocks := B.notSynchronized
  have hin : meth.name = "<init>" := (name_of_methodNamed B.named B.method).1
  subst hsz
  have hD := hD0.self (sz := s.heap.size)
  generalize hAe : va_A [(h0, .inr (2, [.int 0, .null, .null]))] s.heap.size = A at hD ⊢
  have hA : ∀ q : Nat, s.heap.size ≤ q → A q := fun q h => by rw [← hAe]; exact Or.inr h
  have hS : va_S A s.heap s.heap [] := va_S.rf
  have hl := lv_entry ([.ref h0, .int 12, .int 3]) (n := 3) (Nat.le_of_ble_eq_true rfl)
  rw [lg_entry_eq]
  generalize (lg_sl ([.ref h0, .int 12, .int 3]) ++ List.replicate (3 - (lg_sl ([.ref h0, .int 12, .int 3])).length) Slot.unset).toArray = ls at hl ⊢
  have hl : lv_has ls 3 [(0, .ref h0), (1, .int 12), (2, .int 3)] := hl
  refine lv_aload_n hx hb dn_Pool_0 rfl (lv_at hl 0 rfl) ?_
  refine W.objInit hx hb hown (hw (.methodLink R_Pool 3 Lib.objectInit) (kb_all_in (List.mem_of_getElem? (i := 67) rfl) rfl)) (hw (.instanceMethod Lib.objectInit) (kb_all_in (List.mem_of_getElem? (i := 54) rfl) rfl)) (hw (.code Lib.objectInit ⟨#[0xb1]⟩ 1 none) (kb_all_in (List.mem_of_getElem? (i := 55) rfl) rfl)) rfl (by rw [hml]; exact hl.1) rfl dn_Pool_1 (Nat.le_of_ble_eq_true rfl) (Nat.le_of_ble_eq_true rfl) ?_
  refine W.eq (g2 := F0 m 4 ls []) rfl ?_
  refine lv_aload_n hx hb dn_Pool_4 rfl (lv_at hl 0 rfl) ?_
  refine lv_iload_n hx hb dn_Pool_5 rfl (lv_at hl 2 rfl) ?_
  refine va_putF (D := D) (ci := 2) (v := .int 3) (ty := .int) (C := R_Pool) (T := F_Pool) (N := 3) hx hb hw u_Pool t_Pool kt_Pool kf_Pool hown hK hP hD hS 0 rfl rfl 0 (by decide) (hw (.fieldLink R_Pool 9 "BindingKernel$Pool" "share" "I") (kb_all_in (List.mem_of_getElem? (i := 71) rfl) rfl)) (fun _ h9 => h9) rfl hin rfl (by decide +kernel) rfl rfl (Nat.le_of_ble_eq_true rfl) dn_Pool_6 (fun H locs hP hD hS => ?_)
  have hP : va_P D kb_cl [(h0, .inr (2, [.int 3, .null, .null]))] H := hP
  have hD : va_D A [(h0, .inr (2, [.int 3, .null, .null]))] := hD
  refine lv_aload_n hx hb dn_Pool_9 rfl (lv_at hl 0 rfl) ?_
  refine lv_iload_n hx hb dn_Pool_10 rfl (lv_at hl 1 rfl) ?_
  refine kn_newa (atype := .int) (ty := .int) (f := fun _ => 0) (N' := 12) hx hb (hw (.arrayClass .int) (kb_all_in (List.mem_of_getElem? (i := 81) rfl) rfl)) rfl hK hP hD hS hA 0 rfl (fun _ => rfl) (by decide) (by decide) (by decide) (Nat.le_of_ble_eq_true rfl) (Nat.le_of_ble_eq_true rfl) dn_Pool_11 (fun q11 H hP hD hS => ?_)
  have hP : va_P D kb_cl [(h0, .inr (2, [.int 3, .null, .null])), (q11, .inl (cA 0, 12, .inl (fun _ => 0)))] H := hP
  have hD : va_D A [(h0, .inr (2, [.int 3, .null, .null])), (q11, .inl (cA 0, 12, .inl (fun _ => 0)))] := hD
  refine W.widen (k := 1) (n := 12) (by decide) (by decide) ?_
  refine va_putF (D := D) (ci := 2) (v := .ref q11) (ty := (.array .int)) (C := R_Pool) (T := F_Pool) (N := 3) hx hb hw u_Pool t_Pool kt_Pool kf_Pool hown hK hP hD hS 0 rfl rfl 1 (by decide) (hw (.fieldLink R_Pool 15 "BindingKernel$Pool" "holders" "[I") (kb_all_in (List.mem_of_getElem? (i := 72) rfl) rfl)) (fun _ h9 => h9) rfl hin rfl (by decide +kernel) rfl rfl (Nat.le_of_ble_eq_true rfl) dn_Pool_13 (fun H locs hP hD hS => ?_)
  have hP : va_P D kb_cl [(h0, .inr (2, [.int 3, .ref q11, .null])), (q11, .inl (cA 0, 12, .inl (fun _ => 0)))] H := hP
  have hD : va_D A [(h0, .inr (2, [.int 3, .ref q11, .null])), (q11, .inl (cA 0, 12, .inl (fun _ => 0)))] := hD
  refine lv_aload_n hx hb dn_Pool_16 rfl (lv_at hl 0 rfl) ?_
  refine lv_iload_n hx hb dn_Pool_17 rfl (lv_at hl 1 rfl) ?_
  refine lv_iconst (v := 4) hx hb dn_Pool_18 (by decide) ?_
  refine lv_imul hx hb dn_Pool_19 ?_
  refine lv_topi (fun y1 e1 => ?_)
  have e1 : y1 = 48 := e1.trans (by decide)
  subst e1
  refine kn_newa (atype := .int) (ty := .int) (f := fun _ => 0) (N' := 48) hx hb (hw (.arrayClass .int) (kb_all_in (List.mem_of_getElem? (i := 81) rfl) rfl)) rfl hK hP hD hS hA 0 rfl (fun _ => rfl) (by decide) (by decide) (by decide) (Nat.le_of_ble_eq_true rfl) (Nat.le_of_ble_eq_true rfl) dn_Pool_20 (fun q20 H hP hD hS => ?_)
  have hP : va_P D kb_cl [(h0, .inr (2, [.int 3, .ref q11, .null])), (q11, .inl (cA 0, 12, .inl (fun _ => 0))), (q20, .inl (cA 0, 48, .inl (fun _ => 0)))] H := hP
  have hD : va_D A [(h0, .inr (2, [.int 3, .ref q11, .null])), (q11, .inl (cA 0, 12, .inl (fun _ => 0))), (q20, .inl (cA 0, 48, .inl (fun _ => 0)))] := hD
  refine W.widen (k := 2) (n := 60) (by decide) (by decide) ?_
  refine va_putF (D := D) (ci := 2) (v := .ref q20) (ty := (.array .int)) (C := R_Pool) (T := F_Pool) (N := 3) hx hb hw u_Pool t_Pool kt_Pool kf_Pool hown hK hP hD hS 0 rfl rfl 2 (by decide) (hw (.fieldLink R_Pool 19 "BindingKernel$Pool" "words" "[I") (kb_all_in (List.mem_of_getElem? (i := 73) rfl) rfl)) (fun _ h9 => h9) rfl hin rfl (by decide +kernel) rfl rfl (Nat.le_of_ble_eq_true rfl) dn_Pool_22 (fun H locs hP hD hS => ?_)
  have hP : va_P D kb_cl [(h0, .inr (2, [.int 3, .ref q11, .ref q20])), (q11, .inl (cA 0, 12, .inl (fun _ => 0))), (q20, .inl (cA 0, 48, .inl (fun _ => 0)))] H := hP
  have hD : va_D A [(h0, .inr (2, [.int 3, .ref q11, .ref q20])), (q11, .inl (cA 0, 12, .inl (fun _ => 0))), (q20, .inl (cA 0, 48, .inl (fun _ => 0)))] := hD
  refine lv_aload_n hx hb dn_Pool_25 rfl (lv_at hl 0 rfl) ?_
  refine va_get (D := D) (ci := 2) (v := .ref q11) (C := R_Pool) (T := F_Pool) (N := 3) hx hb hw u_Pool hown hK hP 0 rfl rfl 1 (by decide) (hw (.fieldLink R_Pool 15 "BindingKernel$Pool" "holders" "[I") (kb_all_in (List.mem_of_getElem? (i := 72) rfl) rfl)) (fun _ h9 => h9) rfl dn_Pool_26 ?_
  refine lv_iconst (v := -1) hx hb dn_Pool_29 (by decide) ?_
  refine kn_back (wr := [(h0, .inr (2, [.int 3, .ref q11, .ref q20])), (q20, .inl (cA 0, 48, .inl (fun _ => 0)))]) (va_runS (As := [.ref q11, .int (-1)]) (rest := []) ⟨hx, hb, hml, hown, hts⟩ (kn_fill l D cA q11 12 (fun _ => 0) (-1) H.size (by decide)) ⟨callB_of 2 hts (kn_good (kb_all_in (List.mem_of_getElem? (i := 70) rfl) rfl)) rfl rfl rfl (hw (.initialized "java/util/Arrays") (kb_all_in (List.mem_of_getElem? (i := 41) rfl) rfl)) (hw (.methodLink R_Pool 22 yn_fill) (kb_all_in (List.mem_of_getElem? (i := 68) rfl) rfl)) (by decide +kernel) ⟨(Nat.le_of_ble_eq_true rfl), (Nat.le_of_ble_eq_true rfl)⟩, (hw (.static yn_fill) (kb_all_in (List.mem_of_getElem? (i := 69) rfl) rfl))⟩ (kn_preS kn_ex0 trivial hP hD hK [.ref q11, .int (-1)] [1] rfl (by decide)) rfl rfl hl.1 rfl (lv_room (Nat.le_of_ble_eq_true rfl)) dn_Pool_30 ⟨(Nat.le_of_ble_eq_true rfl), (Nat.le_of_ble_eq_true rfl)⟩) hP hD hS hA [1] [0, 2] rfl rfl (by decide) (by decide) (fun _ H locs hP hD hS => ?_)
  have hP : va_P D kb_cl [(h0, .inr (2, [.int 3, .ref q11, .ref q20])), (q20, .inl (cA 0, 48, .inl (fun _ => 0))), (q11, .inl (cA 0, 12, .inl (fun j => if j < 12 then (-1) else 0)))] H := hP
  have hD : va_D A [(h0, .inr (2, [.int 3, .ref q11, .ref q20])), (q20, .inl (cA 0, 48, .inl (fun _ => 0))), (q11, .inl (cA 0, 12, .inl (fun j => if j < 12 then (-1) else 0)))] := hD
  refine W.widen (k := 2) (n := 60) (by decide) (by decide) ?_
  have hP : va_P D kb_cl [(h0, .inr (2, [.int 3, .ref q11, .ref q20])), (q20, .inl (cA 0, 48, .inl (fun _ => 0))), (q11, .inl (cA 0, 12, .inl (fun j => if j < 12 then (-1) else 0)))] H := hP
  have hD : va_D A [(h0, .inr (2, [.int 3, .ref q11, .ref q20])), (q20, .inl (cA 0, 48, .inl (fun _ => 0))), (q11, .inl (cA 0, 12, .inl (fun j => if j < 12 then (-1) else 0)))] := hD
  exact W.vret hx hb hr (fun t ht hW => ⟨⟨(fun k => [q11, q20].getD k 0), rfl, trivial, by rw [ht]; exact kn_Psub hP [0, 2, 1] rfl, va_K.moved hW.alike hK, hD.sub [0, 2, 1] (by decide) rfl⟩, hS.F ht⟩) hS.2.2 dn_Pool_33
set_option maxHeartbeats 4000000 in
set_option maxRecDepth 100000 in
theorem kn_Pool24 (l : Launch) (D : va_G) (cA : Nat → ClassId) (h0 sz : Nat) : kn_M l yn_Pool bn_Pool 3 ({ frames := 1, cells := 2, slots := 120, locals := 23 }) D cA [.ref h0, .int 24, .int 6] [(h0, .inr (2, [.int 0, .null, .null]))] (fun _ => True) (fun u => [(h0, .inr (2, [.int 6, .ref (u 0), .ref (u 1)])), ((u 0), .inl (cA 0, 24, .inl (fun j => if j < 24 then (-1) else 0))), ((u 1), .inl (cA 0, 96, .inl (fun _ => 0)))]) sz 2 120 := by
  refine Met.ofW (cc := bn_Pool) (maxL := 3) (ret := none) (by decide) rfl ?_
  intro p e s m args below meth c s₁ B hml hv
  obtain ⟨rfl, hsz, hP, hK, hD0, hE⟩ := hv
  have hx := B.exec
  have hb := B.bytes
  have hr := B.returns
  have hts := atoms_spec (ws := kn_wo yn_Pool bn_Pool 3) B.pre
  have hw : ∀ w ∈ kb_all, w.before _ s = true := fun w h => hts w (List.mem_cons_of_mem _ h)
  have hown : s.vm.findClass R_Pool = some m.cls := findClass_of_methodNamed B.named
  have hlocks := B.notSynchronized
  have hin : meth.name = "<init>" := (name_of_methodNamed B.named B.method).1
  subst hsz
  have hD := hD0.self (sz := s.heap.size)
  generalize hAe : va_A [(h0, .inr (2, [.int 0, .null, .null]))] s.heap.size = A at hD ⊢
  have hA : ∀ q : Nat, s.heap.size ≤ q → A q := fun q h => by rw [← hAe]; exact Or.inr h
  have hS : va_S A s.heap s.heap [] := va_S.rf
  have hl := lv_entry ([.ref h0, .int 24, .int 6]) (n := 3) (Nat.le_of_ble_eq_true rfl)
  rw [lg_entry_eq]
  generalize (lg_sl ([.ref h0, .int 24, .int 6]) ++ List.replicate (3 - (lg_sl ([.ref h0, .int 24, .int 6])).length) Slot.unset).toArray = ls at hl ⊢
  have hl : lv_has ls 3 [(0, .ref h0), (1, .int 24), (2, .int 6)] := hl
  refine lv_aload_n hx hb dn_Pool_0 rfl (lv_at hl 0 rfl) ?_
  refine W.objInit hx hb hown (hw (.methodLink R_Pool 3 Lib.objectInit) (kb_all_in (List.mem_of_getElem? (i := 67) rfl) rfl)) (hw (.instanceMethod Lib.objectInit) (kb_all_in (List.mem_of_getElem? (i := 54) rfl) rfl)) (hw (.code Lib.objectInit ⟨#[0xb1]⟩ 1 none) (kb_all_in (List.mem_of_getElem? (i := 55) rfl) rfl)) rfl (by rw [hml]; exact hl.1) rfl dn_Pool_1 (Nat.le_of_ble_eq_true rfl) (Nat.le_of_ble_eq_true rfl) ?_
  refine W.eq (g2 := F0 m 4 ls []) rfl ?_
  refine lv_aload_n hx hb dn_Pool_4 rfl (lv_at hl 0 rfl) ?_
  refine lv_iload_n hx hb dn_Pool_5 rfl (lv_at hl 2 rfl) ?_
  refine va_putF (D := D) (ci := 2) (v := .int 6) (ty := .int) (C := R_Pool) (T := F_Pool) (N := 3) hx hb hw u_Pool t_Pool kt_Pool kf_Pool hown hK hP hD hS 0 rfl rfl 0 (by decide) (hw (.fieldLink R_Pool 9 "BindingKernel$Pool" "share" "I") (kb_all_in (List.mem_of_getElem? (i := 71) rfl) rfl)) (fun _ h9 => h9) rfl hin rfl (by decide +kernel) rfl rfl (Nat.le_of_ble_eq_true rfl) dn_Pool_6 (fun H locs hP hD hS => ?_)
  have hP : va_P D kb_cl [(h0, .inr (2, [.int 6, .null, .null]))] H := hP
  have hD : va_D A [(h0, .inr (2, [.int 6, .null, .null]))] := hD
  refine lv_aload_n hx hb dn_Pool_9 rfl (lv_at hl 0 rfl) ?_
  refine lv_iload_n hx hb dn_Pool_10 rfl (lv_at hl 1 rfl) ?_
  refine kn_newa (atype := .int) (ty := .int) (f := fun _ => 0) (N' := 24) hx hb (hw (.arrayClass .int) (kb_all_in (List.mem_of_getElem? (i := 81) rfl) rfl)) rfl hK hP hD hS hA 0 rfl (fun _ => rfl) (by decide) (by decide) (by decide) (Nat.le_of_ble_eq_true rfl) (Nat.le_of_ble_eq_true rfl) dn_Pool_11 (fun q11 H hP hD hS => ?_)
  have hP : va_P D kb_cl [(h0, .inr (2, [.int 6, .null, .null])), (q11, .inl (cA 0, 24, .inl (fun _ => 0)))] H := hP
  have hD : va_D A [(h0, .inr (2, [.int 6, .null, .null])), (q11, .inl (cA 0, 24, .inl (fun _ => 0)))] := hD
  refine W.widen (k := 1) (n := 24) (by decide) (by decide) ?_
  refine va_putF (D := D) (ci := 2) (v := .ref q11) (ty := (.array .int)) (C := R_Pool) (T := F_Pool) (N := 3) hx hb hw u_Pool t_Pool kt_Pool kf_Pool hown hK hP hD hS 0 rfl rfl 1 (by decide) (hw (.fieldLink R_Pool 15 "BindingKernel$Pool" "holders" "[I") (kb_all_in (List.mem_of_getElem? (i := 72) rfl) rfl)) (fun _ h9 => h9) rfl hin rfl (by decide +kernel) rfl rfl (Nat.le_of_ble_eq_true rfl) dn_Pool_13 (fun H locs hP hD hS => ?_)
  have hP : va_P D kb_cl [(h0, .inr (2, [.int 6, .ref q11, .null])), (q11, .inl (cA 0, 24, .inl (fun _ => 0)))] H := hP
  have hD : va_D A [(h0, .inr (2, [.int 6, .ref q11, .null])), (q11, .inl (cA 0, 24, .inl (fun _ => 0)))] := hD
  refine lv_aload_n hx hb dn_Pool_16 rfl (lv_at hl 0 rfl) ?_
  refine lv_iload_n hx hb dn_Pool_17 rfl (lv_at hl 1 rfl) ?_
  refine lv_iconst (v := 4) hx hb dn_Pool_18 (by decide) ?_
  refine lv_imul hx hb dn_Pool_19 ?_
  refine lv_topi (fun y1 e1 => ?_)
  have e1 : y1 = 96 := e1.trans (by decide)
  subst e1
  refine kn_newa (atype := .int) (ty := .int) (f := fun _ => 0) (N' := 96) hx hb (hw (.arrayClass .int) (kb_all_in (List.mem_of_getElem? (i := 81) rfl) rfl)) rfl hK hP hD hS hA 0 rfl (fun _ => rfl) (by decide) (by decide) (by decide) (Nat.le_of_ble_eq_true rfl) (Nat.le_of_ble_eq_true rfl) dn_Pool_20 (fun q20 H hP hD hS => ?_)
  have hP : va_P D kb_cl [(h0, .inr (2, [.int 6, .ref q11, .null])), (q11, .inl (cA 0, 24, .inl (fun _ => 0))), (q20, .inl (cA 0, 96, .inl (fun _ => 0)))] H := hP
  have hD : va_D A [(h0, .inr (2, [.int 6, .ref q11, .null])), (q11, .inl (cA 0, 24, .inl (fun _ => 0))), (q20, .inl (cA 0, 96, .inl (fun _ => 0)))] := hD
  refine W.widen (k := 2) (n := 120) (by decide) (by decide) ?_
  refine va_putF (D := D) (ci := 2) (v := .ref q20) (ty := (.array .int)) (C := R_Pool) (T := F_Pool) (N := 3) hx hb hw u_Pool t_Pool kt_Pool kf_Pool hown hK hP hD hS 0 rfl rfl 2 (by decide) (hw (.fieldLink R_Pool 19 "BindingKernel$Pool" "words" "[I") (kb_all_in (List.mem_of_getElem? (i := 73) rfl) rfl)) (fun _ h9 => h9) rfl hin rfl (by decide +kernel) rfl rfl (Nat.le_of_ble_eq_true rfl) dn_Pool_22 (fun H locs hP hD hS => ?_)
  have hP : va_P D kb_cl [(h0, .inr (2, [.int 6, .ref q11, .ref q20])), (q11, .inl (cA 0, 24, .inl (fun _ => 0))), (q20, .inl (cA 0, 96, .inl (fun _ => 0)))] H := hP
  have hD : va_D A [(h0, .inr (2, [.int 6, .ref q11, .ref q20])), (q11, .inl (cA 0, 24, .inl (fun _ => 0))), (q20, .inl (cA 0, 96, .inl (fun _ => 0)))] := hD
  refine lv_aload_n hx hb dn_Pool_25 rfl (lv_at hl 0 rfl) ?_
  refine va_get (D := D) (ci := 2) (v := .ref q11) (C := R_Pool) (T := F_Pool) (N := 3) hx hb hw u_Pool hown hK hP 0 rfl rfl 1 (by decide) (hw (.fieldLink R_Pool 15 "BindingKernel$Pool" "holders" "[I") (kb_all_in (List.mem_of_getElem? (i := 72) rfl) rfl)) (fun _ h9 => h9) rfl dn_Pool_26 ?_
  refine lv_iconst (v := -1) hx hb dn_Pool_29 (by decide) ?_
  refine kn_back (wr := [(h0, .inr (2, [.int 6, .ref q11, .ref q20])), (q20, .inl (cA 0, 96, .inl (fun _ => 0)))]) (va_runS (As := [.ref q11, .int (-1)]) (rest := []) ⟨hx, hb, hml, hown, hts⟩ (kn_fill l D cA q11 24 (fun _ => 0) (-1) H.size (by decide)) ⟨callB_of 2 hts (kn_good (kb_all_in (List.mem_of_getElem? (i := 70) rfl) rfl)) rfl rfl rfl (hw (.initialized "java/util/Arrays") (kb_all_in (List.mem_of_getElem? (i := 41) rfl) rfl)) (hw (.methodLink R_Pool 22 yn_fill) (kb_all_in (List.mem_of_getElem? (i := 68) rfl) rfl)) (by decide +kernel) ⟨(Nat.le_of_ble_eq_true rfl), (Nat.le_of_ble_eq_true rfl)⟩, (hw (.static yn_fill) (kb_all_in (List.mem_of_getElem? (i := 69) rfl) rfl))⟩ (kn_preS kn_ex0 trivial hP hD hK [.ref q11, .int (-1)] [1] rfl (by decide)) rfl rfl hl.1 rfl (lv_room (Nat.le_of_ble_eq_true rfl)) dn_Pool_30 ⟨(Nat.le_of_ble_eq_true rfl), (Nat.le_of_ble_eq_true rfl)⟩) hP hD hS hA [1] [0, 2] rfl rfl (by decide) (by decide) (fun _ H locs hP hD hS => ?_)
  have hP : va_P D kb_cl [(h0, .inr (2, [.int 6, .ref q11, .ref q20])), (q20, .inl (cA 0, 96, .inl (fun _ => 0))), (q11, .inl (cA 0, 24, .inl (fun j => if j < 24 then (-1) else 0)))] H := hP
  have hD : va_D A [(h0, .inr (2, [.int 6, .ref q11, .ref q20])), (q20, .inl (cA 0, 96, .inl (fun _ => 0))), (q11, .inl (cA 0, 24, .inl (fun j => if j < 24 then (-1) else 0)))] := hD
  refine W.widen (k := 2) (n := 120) (by decide) (by decide) ?_
  have hP : va_P D kb_cl [(h0, .inr (2, [.int 6, .ref q11, .ref q20])), (q20, .inl (cA 0, 96, .inl (fun _ => 0))), (q11, .inl (cA 0, 24, .inl (fun j => if j < 24 then (-1) else 0)))] H := hP
  have hD : va_D A [(h0, .inr (2, [.int 6, .ref q11, .ref q20])), (q20, .inl (cA 0, 96, .inl (fun _ => 0))), (q11, .inl (cA 0, 24, .inl (fun j => if j < 24 then (-1) else 0)))] := hD
  exact W.vret hx hb hr (fun t ht hW => ⟨⟨(fun k => [q11, q20].getD k 0), rfl, trivial, by rw [ht]; exact kn_Psub hP [0, 2, 1] rfl, va_K.moved hW.alike hK, hD.sub [0, 2, 1] (by decide) rfl⟩, hS.F ht⟩) hS.2.2 dn_Pool_33
set_option maxHeartbeats 4000000 in
set_option maxRecDepth 100000 in
theorem kn_Guest (l : Launch) (D : va_G) (cA : Nat → ClassId) (h0 sz : Nat) (g1 g2 : Nat) : kn_M l yn_Guest bn_Guest 3 ({ frames := 1, cells := 4, slots := 240, locals := 12 }) D cA [.ref h0, .ref g1, .ref g2] [(h0, .inr (3, [.int 0, .null, .null, .null, .null, .null, .null, .int 0]))] (fun _ => True) (fun u => [(h0, .inr (3, [.int 0, .ref g1, .ref g2, .ref (u 0), .ref (u 1), .ref (u 2), .ref (u 3), .int 0])), ((u 0), .inl (cA 1, 60, .inl (fun _ => 0))), ((u 1), .inl (cA 0, 60, .inl (fun _ => 0))), ((u 2), .inl (cA 0, 60, .inl (fun _ => 0))), ((u 3), .inl (cA 0, 60, .inl (fun _ => 0)))]) sz 4 240 := by
  refine Met.ofW (cc := bn_Guest) (maxL := 3) (ret := none) (by decide) rfl ?_
  intro p e s m args below meth c s₁ B hml hv
  obtain ⟨rfl, hsz, hP, hK, hD0, hE⟩ := hv
  have hx := B.exec
  have hb := B.bytes
  have hr := B.returns
  have hts := atoms_spec (ws := kn_wo yn_Guest bn_Guest 3) B.pre
  have hw : ∀ w ∈ kb_all, w.before _ s = true := fun w h => hts w (List.mem_cons_of_mem _ h)
  have hown : s.vm.findClass R_Guest = some m.cls := findClass_of_methodNamed B.named
  have hlocks := B.notSynchronized
  have hin : meth.name = "<init>" := (name_of_methodNamed B.named B.method).1
  subst hsz
  have hD := hD0.self (sz := s.heap.size)
  generalize hAe : va_A [(h0, .inr (3, [.int 0, .null, .null, .null, .null, .null, .null, .int 0]))] s.heap.size = A at hD ⊢
  have hA : ∀ q : Nat, s.heap.size ≤ q → A q := fun q h => by rw [← hAe]; exact Or.inr h
  have hS : va_S A s.heap s.heap [] := va_S.rf
  have hl := lv_entry ([.ref h0, .ref g1, .ref g2]) (n := 3) (Nat.le_of_ble_eq_true rfl)
  rw [lg_entry_eq]
  generalize (lg_sl ([.ref h0, .ref g1, .ref g2]) ++ List.replicate (3 - (lg_sl ([.ref h0, .ref g1, .ref g2])).length) Slot.unset).toArray = ls at hl ⊢
  have hl : lv_has ls 3 [(0, .ref h0), (1, .ref g1), (2, .ref g2)] := hl
  refine lv_aload_n hx hb dn_Guest_0 rfl (lv_at hl 0 rfl) ?_
  refine W.objInit hx hb hown (hw (.methodLink R_Guest 3 Lib.objectInit) (kb_all_in (List.mem_of_getElem? (i := 87) rfl) rfl)) (hw (.instanceMethod Lib.objectInit) (kb_all_in (List.mem_of_getElem? (i := 54) rfl) rfl)) (hw (.code Lib.objectInit ⟨#[0xb1]⟩ 1 none) (kb_all_in (List.mem_of_getElem? (i := 55) rfl) rfl)) rfl (by rw [hml]; exact hl.1) rfl dn_Guest_1 (Nat.le_of_ble_eq_true rfl) (Nat.le_of_ble_eq_true rfl) ?_
  refine W.eq (g2 := F0 m 4 ls []) rfl ?_
  refine lv_aload_n hx hb dn_Guest_4 rfl (lv_at hl 0 rfl) ?_
  refine lv_bipush (v := 60) hx hb dn_Guest_5 (by decide) ?_
  refine kn_newa (atype := .boolean) (ty := .boolean) (f := fun _ => 0) (N' := 60) hx hb (hw (.arrayClass .boolean) (kb_all_in (List.mem_of_getElem? (i := 114) rfl) rfl)) rfl hK hP hD hS hA 1 rfl (fun _ => rfl) (by decide) (by decide) (by decide) (Nat.le_of_ble_eq_true rfl) (Nat.le_of_ble_eq_true rfl) dn_Guest_7 (fun q7 H hP hD hS => ?_)
  have hP : va_P D kb_cl [(h0, .inr (3, [.int 0, .null, .null, .null, .null, .null, .null, .int 0])), (q7, .inl (cA 1, 60, .inl (fun _ => 0)))] H := hP
  have hD : va_D A [(h0, .inr (3, [.int 0, .null, .null, .null, .null, .null, .null, .int 0])), (q7, .inl (cA 1, 60, .inl (fun _ => 0)))] := hD
  refine W.widen (k := 1) (n := 60) (by decide) (by decide) ?_
  refine va_putF (D := D) (ci := 3) (v := .ref q7) (ty := (.array .boolean)) (C := R_Guest) (T := F_Guest) (N := 8) hx hb hw u_Guest t_Guest kt_Guest kf_Guest hown hK hP hD hS 0 rfl rfl 3 (by decide) (hw (.fieldLink R_Guest 9 "BindingKernel$Guest" "ofBlocks" "[Z") (kb_all_in (List.mem_of_getElem? (i := 92) rfl) rfl)) (fun _ h9 => h9) rfl hin rfl (by decide +kernel) rfl rfl (Nat.le_of_ble_eq_true rfl) dn_Guest_9 (fun H locs hP hD hS => ?_)
  have hP : va_P D kb_cl [(h0, .inr (3, [.int 0, .null, .null, .ref q7, .null, .null, .null, .int 0])), (q7, .inl (cA 1, 60, .inl (fun _ => 0)))] H := hP
  have hD : va_D A [(h0, .inr (3, [.int 0, .null, .null, .ref q7, .null, .null, .null, .int 0])), (q7, .inl (cA 1, 60, .inl (fun _ => 0)))] := hD
  refine lv_aload_n hx hb dn_Guest_12 rfl (lv_at hl 0 rfl) ?_
  refine lv_bipush (v := 60) hx hb dn_Guest_13 (by decide) ?_
  refine kn_newa (atype := .int) (ty := .int) (f := fun _ => 0) (N' := 60) hx hb (hw (.arrayClass .int) (kb_all_in (List.mem_of_getElem? (i := 81) rfl) rfl)) rfl hK hP hD hS hA 0 rfl (fun _ => rfl) (by decide) (by decide) (by decide) (Nat.le_of_ble_eq_true rfl) (Nat.le_of_ble_eq_true rfl) dn_Guest_15 (fun q15 H hP hD hS => ?_)
  have hP : va_P D kb_cl [(h0, .inr (3, [.int 0, .null, .null, .ref q7, .null, .null, .null, .int 0])), (q7, .inl (cA 1, 60, .inl (fun _ => 0))), (q15, .inl (cA 0, 60, .inl (fun _ => 0)))] H := hP
  have hD : va_D A [(h0, .inr (3, [.int 0, .null, .null, .ref q7, .null, .null, .null, .int 0])), (q7, .inl (cA 1, 60, .inl (fun _ => 0))), (q15, .inl (cA 0, 60, .inl (fun _ => 0)))] := hD
  refine W.widen (k := 2) (n := 120) (by decide) (by decide) ?_
  refine va_putF (D := D) (ci := 3) (v := .ref q15) (ty := (.array .int)) (C := R_Guest) (T := F_Guest) (N := 8) hx hb hw u_Guest t_Guest kt_Guest kf_Guest hown hK hP hD hS 0 rfl rfl 4 (by decide) (hw (.fieldLink R_Guest 15 "BindingKernel$Guest" "resources" "[I") (kb_all_in (List.mem_of_getElem? (i := 93) rfl) rfl)) (fun _ h9 => h9) rfl hin rfl (by decide +kernel) rfl rfl (Nat.le_of_ble_eq_true rfl) dn_Guest_17 (fun H locs hP hD hS => ?_)
  have hP : va_P D kb_cl [(h0, .inr (3, [.int 0, .null, .null, .ref q7, .ref q15, .null, .null, .int 0])), (q7, .inl (cA 1, 60, .inl (fun _ => 0))), (q15, .inl (cA 0, 60, .inl (fun _ => 0)))] H := hP
  have hD : va_D A [(h0, .inr (3, [.int 0, .null, .null, .ref q7, .ref q15, .null, .null, .int 0])), (q7, .inl (cA 1, 60, .inl (fun _ => 0))), (q15, .inl (cA 0, 60, .inl (fun _ => 0)))] := hD
  refine lv_aload_n hx hb dn_Guest_20 rfl (lv_at hl 0 rfl) ?_
  refine lv_bipush (v := 60) hx hb dn_Guest_21 (by decide) ?_
  refine kn_newa (atype := .int) (ty := .int) (f := fun _ => 0) (N' := 60) hx hb (hw (.arrayClass .int) (kb_all_in (List.mem_of_getElem? (i := 81) rfl) rfl)) rfl hK hP hD hS hA 0 rfl (fun _ => rfl) (by decide) (by decide) (by decide) (Nat.le_of_ble_eq_true rfl) (Nat.le_of_ble_eq_true rfl) dn_Guest_23 (fun q23 H hP hD hS => ?_)
  have hP : va_P D kb_cl [(h0, .inr (3, [.int 0, .null, .null, .ref q7, .ref q15, .null, .null, .int 0])), (q7, .inl (cA 1, 60, .inl (fun _ => 0))), (q15, .inl (cA 0, 60, .inl (fun _ => 0))), (q23, .inl (cA 0, 60, .inl (fun _ => 0)))] H := hP
  have hD : va_D A [(h0, .inr (3, [.int 0, .null, .null, .ref q7, .ref q15, .null, .null, .int 0])), (q7, .inl (cA 1, 60, .inl (fun _ => 0))), (q15, .inl (cA 0, 60, .inl (fun _ => 0))), (q23, .inl (cA 0, 60, .inl (fun _ => 0)))] := hD
  refine W.widen (k := 3) (n := 180) (by decide) (by decide) ?_
  refine va_putF (D := D) (ci := 3) (v := .ref q23) (ty := (.array .int)) (C := R_Guest) (T := F_Guest) (N := 8) hx hb hw u_Guest t_Guest kt_Guest kf_Guest hown hK hP hD hS 0 rfl rfl 5 (by decide) (hw (.fieldLink R_Guest 19 "BindingKernel$Guest" "states" "[I") (kb_all_in (List.mem_of_getElem? (i := 94) rfl) rfl)) (fun _ h9 => h9) rfl hin rfl (by decide +kernel) rfl rfl (Nat.le_of_ble_eq_true rfl) dn_Guest_25 (fun H locs hP hD hS => ?_)
  have hP : va_P D kb_cl [(h0, .inr (3, [.int 0, .null, .null, .ref q7, .ref q15, .ref q23, .null, .int 0])), (q7, .inl (cA 1, 60, .inl (fun _ => 0))), (q15, .inl (cA 0, 60, .inl (fun _ => 0))), (q23, .inl (cA 0, 60, .inl (fun _ => 0)))] H := hP
  have hD : va_D A [(h0, .inr (3, [.int 0, .null, .null, .ref q7, .ref q15, .ref q23, .null, .int 0])), (q7, .inl (cA 1, 60, .inl (fun _ => 0))), (q15, .inl (cA 0, 60, .inl (fun _ => 0))), (q23, .inl (cA 0, 60, .inl (fun _ => 0)))] := hD
  refine lv_aload_n hx hb dn_Guest_28 rfl (lv_at hl 0 rfl) ?_
  refine lv_bipush (v := 60) hx hb dn_Guest_29 (by decide) ?_
  refine kn_newa (atype := .int) (ty := .int) (f := fun _ => 0) (N' := 60) hx hb (hw (.arrayClass .int) (kb_all_in (List.mem_of_getElem? (i := 81) rfl) rfl)) rfl hK hP hD hS hA 0 rfl (fun _ => rfl) (by decide) (by decide) (by decide) (Nat.le_of_ble_eq_true rfl) (Nat.le_of_ble_eq_true rfl) dn_Guest_31 (fun q31 H hP hD hS => ?_)
  have hP : va_P D kb_cl [(h0, .inr (3, [.int 0, .null, .null, .ref q7, .ref q15, .ref q23, .null, .int 0])), (q7, .inl (cA 1, 60, .inl (fun _ => 0))), (q15, .inl (cA 0, 60, .inl (fun _ => 0))), (q23, .inl (cA 0, 60, .inl (fun _ => 0))), (q31, .inl (cA 0, 60, .inl (fun _ => 0)))] H := hP
  have hD : va_D A [(h0, .inr (3, [.int 0, .null, .null, .ref q7, .ref q15, .ref q23, .null, .int 0])), (q7, .inl (cA 1, 60, .inl (fun _ => 0))), (q15, .inl (cA 0, 60, .inl (fun _ => 0))), (q23, .inl (cA 0, 60, .inl (fun _ => 0))), (q31, .inl (cA 0, 60, .inl (fun _ => 0)))] := hD
  refine W.widen (k := 4) (n := 240) (by decide) (by decide) ?_
  refine va_putF (D := D) (ci := 3) (v := .ref q31) (ty := (.array .int)) (C := R_Guest) (T := F_Guest) (N := 8) hx hb hw u_Guest t_Guest kt_Guest kf_Guest hown hK hP hD hS 0 rfl rfl 6 (by decide) (hw (.fieldLink R_Guest 22 "BindingKernel$Guest" "deadlines" "[I") (kb_all_in (List.mem_of_getElem? (i := 95) rfl) rfl)) (fun _ h9 => h9) rfl hin rfl (by decide +kernel) rfl rfl (Nat.le_of_ble_eq_true rfl) dn_Guest_33 (fun H locs hP hD hS => ?_)
  have hP : va_P D kb_cl [(h0, .inr (3, [.int 0, .null, .null, .ref q7, .ref q15, .ref q23, .ref q31, .int 0])), (q7, .inl (cA 1, 60, .inl (fun _ => 0))), (q15, .inl (cA 0, 60, .inl (fun _ => 0))), (q23, .inl (cA 0, 60, .inl (fun _ => 0))), (q31, .inl (cA 0, 60, .inl (fun _ => 0)))] H := hP
  have hD : va_D A [(h0, .inr (3, [.int 0, .null, .null, .ref q7, .ref q15, .ref q23, .ref q31, .int 0])), (q7, .inl (cA 1, 60, .inl (fun _ => 0))), (q15, .inl (cA 0, 60, .inl (fun _ => 0))), (q23, .inl (cA 0, 60, .inl (fun _ => 0))), (q31, .inl (cA 0, 60, .inl (fun _ => 0)))] := hD
  refine lv_aload_n hx hb dn_Guest_36 rfl (lv_at hl 0 rfl) ?_
  refine lv_aload_n hx hb dn_Guest_37 rfl (lv_at hl 1 rfl) ?_
  refine va_putF (D := D) (ci := 3) (v := .ref g1) (ty := (.object "BindingKernel$Pool")) (C := R_Guest) (T := F_Guest) (N := 8) hx hb hw u_Guest t_Guest kt_Guest kf_Guest hown hK hP hD hS 0 rfl rfl 1 (by decide) (hw (.fieldLink R_Guest 25 "BindingKernel$Guest" "frames" "LBindingKernel$Pool;") (kb_all_in (List.mem_of_getElem? (i := 90) rfl) rfl)) (fun _ h9 => h9) rfl hin rfl (by decide +kernel) rfl rfl (Nat.le_of_ble_eq_true rfl) dn_Guest_38 (fun H locs hP hD hS => ?_)
  have hP : va_P D kb_cl [(h0, .inr (3, [.int 0, .ref g1, .null, .ref q7, .ref q15, .ref q23, .ref q31, .int 0])), (q7, .inl (cA 1, 60, .inl (fun _ => 0))), (q15, .inl (cA 0, 60, .inl (fun _ => 0))), (q23, .inl (cA 0, 60, .inl (fun _ => 0))), (q31, .inl (cA 0, 60, .inl (fun _ => 0)))] H := hP
  have hD : va_D A [(h0, .inr (3, [.int 0, .ref g1, .null, .ref q7, .ref q15, .ref q23, .ref q31, .int 0])), (q7, .inl (cA 1, 60, .inl (fun _ => 0))), (q15, .inl (cA 0, 60, .inl (fun _ => 0))), (q23, .inl (cA 0, 60, .inl (fun _ => 0))), (q31, .inl (cA 0, 60, .inl (fun _ => 0)))] := hD
  refine lv_aload_n hx hb dn_Guest_41 rfl (lv_at hl 0 rfl) ?_
  refine lv_aload_n hx hb dn_Guest_42 rfl (lv_at hl 2 rfl) ?_
  refine va_putF (D := D) (ci := 3) (v := .ref g2) (ty := (.object "BindingKernel$Pool")) (C := R_Guest) (T := F_Guest) (N := 8) hx hb hw u_Guest t_Guest kt_Guest kf_Guest hown hK hP hD hS 0 rfl rfl 2 (by decide) (hw (.fieldLink R_Guest 29 "BindingKernel$Guest" "blocks" "LBindingKernel$Pool;") (kb_all_in (List.mem_of_getElem? (i := 91) rfl) rfl)) (fun _ h9 => h9) rfl hin rfl (by decide +kernel) rfl rfl (Nat.le_of_ble_eq_true rfl) dn_Guest_43 (fun H locs hP hD hS => ?_)
  have hP : va_P D kb_cl [(h0, .inr (3, [.int 0, .ref g1, .ref g2, .ref q7, .ref q15, .ref q23, .ref q31, .int 0])), (q7, .inl (cA 1, 60, .inl (fun _ => 0))), (q15, .inl (cA 0, 60, .inl (fun _ => 0))), (q23, .inl (cA 0, 60, .inl (fun _ => 0))), (q31, .inl (cA 0, 60, .inl (fun _ => 0)))] H := hP
  have hD : va_D A [(h0, .inr (3, [.int 0, .ref g1, .ref g2, .ref q7, .ref q15, .ref q23, .ref q31, .int 0])), (q7, .inl (cA 1, 60, .inl (fun _ => 0))), (q15, .inl (cA 0, 60, .inl (fun _ => 0))), (q23, .inl (cA 0, 60, .inl (fun _ => 0))), (q31, .inl (cA 0, 60, .inl (fun _ => 0)))] := hD
  have hP : va_P D kb_cl [(h0, .inr (3, [.int 0, .ref g1, .ref g2, .ref q7, .ref q15, .ref q23, .ref q31, .int 0])), (q7, .inl (cA 1, 60, .inl (fun _ => 0))), (q15, .inl (cA 0, 60, .inl (fun _ => 0))), (q23, .inl (cA 0, 60, .inl (fun _ => 0))), (q31, .inl (cA 0, 60, .inl (fun _ => 0)))] H := hP
  have hD : va_D A [(h0, .inr (3, [.int 0, .ref g1, .ref g2, .ref q7, .ref q15, .ref q23, .ref q31, .int 0])), (q7, .inl (cA 1, 60, .inl (fun _ => 0))), (q15, .inl (cA 0, 60, .inl (fun _ => 0))), (q23, .inl (cA 0, 60, .inl (fun _ => 0))), (q31, .inl (cA 0, 60, .inl (fun _ => 0)))] := hD
  exact W.vret hx hb hr (fun t ht hW => ⟨⟨(fun k => [q7, q15, q23, q31].getD k 0), rfl, trivial, by rw [ht]; exact kn_Psub hP [0, 1, 2, 3, 4] rfl, va_K.moved hW.alike hK, hD.sub [0, 1, 2, 3, 4] (by decide) rfl⟩, hS.F ht⟩) hS.2.2 dn_Guest_46
set_option maxHeartbeats 4000000 in
set_option maxRecDepth 100000 in
theorem kn_Model (l : Launch) (D : va_G) (cA : Nat → ClassId) (h0 sz : Nat) : kn_M l yn_Model bn_Model 1 ({ frames := 1, cells := 11, slots := 1158, locals := 12 }) D cA [.ref h0] [(h0, .inr (6, [.int 0, .int 0, .int 0, .null, .null, .null, .null, .null, .null, .null, .null, .null, .null, .null]))] (fun _ => True) (fun u => [(h0, .inr (6, [.int 0, .int 0, .int 0, .ref (u 0), .ref (u 1), .ref (u 2), .ref (u 3), .ref (u 4), .ref (u 5), .ref (u 6), .ref (u 7), .ref (u 8), .ref (u 9), .ref (u 10)])), ((u 0), .inl (cA 0, 288, .inl (fun _ => 0))), ((u 1), .inl (cA 0, 12, .inl (fun _ => 0))), ((u 2), .inl (cA 0, 6, .inl (fun _ => 0))), ((u 3), .inl (cA 1, 6, .inl (fun _ => 0))), ((u 4), .inl (cA 0, 2, .inl (fun _ => 0))), ((u 5), .inl (cA 0, 2, .inl (fun _ => 0))), ((u 6), .inl (cA 0, 2, .inl (fun _ => 0))), ((u 7), .inl (cA 1, 120, .inl (fun _ => 0))), ((u 8), .inl (cA 0, 120, .inl (fun _ => 0))), ((u 9), .inl (cA 0, 120, .inl (fun _ => 0))), ((u 10), .inl (cA 0, 480, .inl (fun _ => 0)))]) sz 11 1158 := by
  refine Met.ofW (cc := bn_Model) (maxL := 1) (ret := none) (by decide) rfl ?_
  intro p e s m args below meth c s₁ B hml hv
  obtain ⟨rfl, hsz, hP, hK, hD0, hE⟩ := hv
  have hx := B.exec
  have hb := B.bytes
  have hr := B.returns
  have hts := atoms_spec (ws := kn_wo yn_Model bn_Model 1) B.pre
  have hw : ∀ w ∈ kb_all, w.before _ s = true := fun w h => hts w (List.mem_cons_of_mem _ h)
  have hown : s.vm.findClass R_Model = some m.cls := findClass_of_methodNamed B.named
  have hlocks := B.notSynchronized
  have hin : meth.name = "<init>" := (name_of_methodNamed B.named B.method).1
  subst hsz
  have hD := hD0.self (sz := s.heap.size)
  generalize hAe : va_A [(h0, .inr (6, [.int 0, .int 0, .int 0, .null, .null, .null, .null, .null, .null, .null, .null, .null, .null, .null]))] s.heap.size = A at hD ⊢
  have hA : ∀ q : Nat, s.heap.size ≤ q → A q := fun q h => by rw [← hAe]; exact Or.inr h
  have hS : va_S A s.heap s.heap [] := va_S.rf
  have hl := lv_entry ([.ref h0]) (n := 1) (Nat.le_of_ble_eq_true rfl)
  rw [lg_entry_eq]
  generalize (lg_sl ([.ref h0]) ++ List.replicate (1 - (lg_sl ([.ref h0])).length) Slot.unset).toArray = ls at hl ⊢
  have hl : lv_has ls 1 [(0, .ref h0)] := hl
  refine lv_aload_n hx hb dn_Model_0 rfl (lv_at hl 0 rfl) ?_
  refine W.objInit hx hb hown (hw (.methodLink R_Model 1 Lib.objectInit) (kb_all_in (List.mem_of_getElem? (i := 520) rfl) rfl)) (hw (.instanceMethod Lib.objectInit) (kb_all_in (List.mem_of_getElem? (i := 54) rfl) rfl)) (hw (.code Lib.objectInit ⟨#[0xb1]⟩ 1 none) (kb_all_in (List.mem_of_getElem? (i := 55) rfl) rfl)) rfl (by rw [hml]; exact hl.1) rfl dn_Model_1 (Nat.le_of_ble_eq_true rfl) (Nat.le_of_ble_eq_true rfl) ?_
  refine W.eq (g2 := F0 m 4 ls []) rfl ?_
  refine lv_aload_n hx hb dn_Model_4 rfl (lv_at hl 0 rfl) ?_
  refine lv_sipush (v := 288) hx hb dn_Model_5 (by decide) ?_
  refine kn_newa (atype := .int) (ty := .int) (f := fun _ => 0) (N' := 288) hx hb (hw (.arrayClass .int) (kb_all_in (List.mem_of_getElem? (i := 81) rfl) rfl)) rfl hK hP hD hS hA 0 rfl (fun _ => rfl) (by decide) (by decide) (by decide) (Nat.le_of_ble_eq_true rfl) (Nat.le_of_ble_eq_true rfl) dn_Model_8 (fun q8 H hP hD hS => ?_)
  have hP : va_P D kb_cl [(h0, .inr (6, [.int 0, .int 0, .int 0, .null, .null, .null, .null, .null, .null, .null, .null, .null, .null, .null])), (q8, .inl (cA 0, 288, .inl (fun _ => 0)))] H := hP
  have hD : va_D A [(h0, .inr (6, [.int 0, .int 0, .int 0, .null, .null, .null, .null, .null, .null, .null, .null, .null, .null, .null])), (q8, .inl (cA 0, 288, .inl (fun _ => 0)))] := hD
  refine W.widen (k := 1) (n := 288) (by decide) (by decide) ?_
  refine va_put (D := D) (ci := 6) (v := .ref q8) (ty := (.array .int)) (C := R_Model) (T := F_Model) (N := 14) hx hb hw u_Model t_Model kt_Model kf_Model hown hK hP hD hS 0 rfl rfl 3 (by decide) (hw (.fieldLink R_Model 7 "BindingKernelModel" "words" "[I") (kb_all_in (List.mem_of_getElem? (i := 524) rfl) rfl)) (fun _ h9 => h9) rfl (by decide +kernel) rfl rfl (Nat.le_of_ble_eq_true rfl) dn_Model_10 (fun H locs hP hD hS => ?_)
  have hP : va_P D kb_cl [(h0, .inr (6, [.int 0, .int 0, .int 0, .ref q8, .null, .null, .null, .null, .null, .null, .null, .null, .null, .null])), (q8, .inl (cA 0, 288, .inl (fun _ => 0)))] H := hP
  have hD : va_D A [(h0, .inr (6, [.int 0, .int 0, .int 0, .ref q8, .null, .null, .null, .null, .null, .null, .null, .null, .null, .null])), (q8, .inl (cA 0, 288, .inl (fun _ => 0)))] := hD
  refine lv_aload_n hx hb dn_Model_13 rfl (lv_at hl 0 rfl) ?_
  refine lv_bipush (v := 12) hx hb dn_Model_14 (by decide) ?_
  refine kn_newa (atype := .int) (ty := .int) (f := fun _ => 0) (N' := 12) hx hb (hw (.arrayClass .int) (kb_all_in (List.mem_of_getElem? (i := 81) rfl) rfl)) rfl hK hP hD hS hA 0 rfl (fun _ => rfl) (by decide) (by decide) (by decide) (Nat.le_of_ble_eq_true rfl) (Nat.le_of_ble_eq_true rfl) dn_Model_16 (fun q16 H hP hD hS => ?_)
  have hP : va_P D kb_cl [(h0, .inr (6, [.int 0, .int 0, .int 0, .ref q8, .null, .null, .null, .null, .null, .null, .null, .null, .null, .null])), (q8, .inl (cA 0, 288, .inl (fun _ => 0))), (q16, .inl (cA 0, 12, .inl (fun _ => 0)))] H := hP
  have hD : va_D A [(h0, .inr (6, [.int 0, .int 0, .int 0, .ref q8, .null, .null, .null, .null, .null, .null, .null, .null, .null, .null])), (q8, .inl (cA 0, 288, .inl (fun _ => 0))), (q16, .inl (cA 0, 12, .inl (fun _ => 0)))] := hD
  refine W.widen (k := 2) (n := 300) (by decide) (by decide) ?_
  refine va_put (D := D) (ci := 6) (v := .ref q16) (ty := (.array .int)) (C := R_Model) (T := F_Model) (N := 14) hx hb hw u_Model t_Model kt_Model kf_Model hown hK hP hD hS 0 rfl rfl 4 (by decide) (hw (.fieldLink R_Model 13 "BindingKernelModel" "size" "[I") (kb_all_in (List.mem_of_getElem? (i := 525) rfl) rfl)) (fun _ h9 => h9) rfl (by decide +kernel) rfl rfl (Nat.le_of_ble_eq_true rfl) dn_Model_18 (fun H locs hP hD hS => ?_)
  have hP : va_P D kb_cl [(h0, .inr (6, [.int 0, .int 0, .int 0, .ref q8, .ref q16, .null, .null, .null, .null, .null, .null, .null, .null, .null])), (q8, .inl (cA 0, 288, .inl (fun _ => 0))), (q16, .inl (cA 0, 12, .inl (fun _ => 0)))] H := hP
  have hD : va_D A [(h0, .inr (6, [.int 0, .int 0, .int 0, .ref q8, .ref q16, .null, .null, .null, .null, .null, .null, .null, .null, .null])), (q8, .inl (cA 0, 288, .inl (fun _ => 0))), (q16, .inl (cA 0, 12, .inl (fun _ => 0)))] := hD
  refine lv_aload_n hx hb dn_Model_21 rfl (lv_at hl 0 rfl) ?_
  refine lv_bipush (v := 6) hx hb dn_Model_22 (by decide) ?_
  refine kn_newa (atype := .int) (ty := .int) (f := fun _ => 0) (N' := 6) hx hb (hw (.arrayClass .int) (kb_all_in (List.mem_of_getElem? (i := 81) rfl) rfl)) rfl hK hP hD hS hA 0 rfl (fun _ => rfl) (by decide) (by decide) (by decide) (Nat.le_of_ble_eq_true rfl) (Nat.le_of_ble_eq_true rfl) dn_Model_24 (fun q24 H hP hD hS => ?_)
  have hP : va_P D kb_cl [(h0, .inr (6, [.int 0, .int 0, .int 0, .ref q8, .ref q16, .null, .null, .null, .null, .null, .null, .null, .null, .null])), (q8, .inl (cA 0, 288, .inl (fun _ => 0))), (q16, .inl (cA 0, 12, .inl (fun _ => 0))), (q24, .inl (cA 0, 6, .inl (fun _ => 0)))] H := hP
  have hD : va_D A [(h0, .inr (6, [.int 0, .int 0, .int 0, .ref q8, .ref q16, .null, .null, .null, .null, .null, .null, .null, .null, .null])), (q8, .inl (cA 0, 288, .inl (fun _ => 0))), (q16, .inl (cA 0, 12, .inl (fun _ => 0))), (q24, .inl (cA 0, 6, .inl (fun _ => 0)))] := hD
  refine W.widen (k := 3) (n := 306) (by decide) (by decide) ?_
  refine va_put (D := D) (ci := 6) (v := .ref q24) (ty := (.array .int)) (C := R_Model) (T := F_Model) (N := 14) hx hb hw u_Model t_Model kt_Model kf_Model hown hK hP hD hS 0 rfl rfl 5 (by decide) (hw (.fieldLink R_Model 16 "BindingKernelModel" "cached" "[I") (kb_all_in (List.mem_of_getElem? (i := 526) rfl) rfl)) (fun _ h9 => h9) rfl (by decide +kernel) rfl rfl (Nat.le_of_ble_eq_true rfl) dn_Model_26 (fun H locs hP hD hS => ?_)
  have hP : va_P D kb_cl [(h0, .inr (6, [.int 0, .int 0, .int 0, .ref q8, .ref q16, .ref q24, .null, .null, .null, .null, .null, .null, .null, .null])), (q8, .inl (cA 0, 288, .inl (fun _ => 0))), (q16, .inl (cA 0, 12, .inl (fun _ => 0))), (q24, .inl (cA 0, 6, .inl (fun _ => 0)))] H := hP
  have hD : va_D A [(h0, .inr (6, [.int 0, .int 0, .int 0, .ref q8, .ref q16, .ref q24, .null, .null, .null, .null, .null, .null, .null, .null])), (q8, .inl (cA 0, 288, .inl (fun _ => 0))), (q16, .inl (cA 0, 12, .inl (fun _ => 0))), (q24, .inl (cA 0, 6, .inl (fun _ => 0)))] := hD
  refine lv_aload_n hx hb dn_Model_29 rfl (lv_at hl 0 rfl) ?_
  refine lv_bipush (v := 6) hx hb dn_Model_30 (by decide) ?_
  refine kn_newa (atype := .boolean) (ty := .boolean) (f := fun _ => 0) (N' := 6) hx hb (hw (.arrayClass .boolean) (kb_all_in (List.mem_of_getElem? (i := 114) rfl) rfl)) rfl hK hP hD hS hA 1 rfl (fun _ => rfl) (by decide) (by decide) (by decide) (Nat.le_of_ble_eq_true rfl) (Nat.le_of_ble_eq_true rfl) dn_Model_32 (fun q32 H hP hD hS => ?_)
  have hP : va_P D kb_cl [(h0, .inr (6, [.int 0, .int 0, .int 0, .ref q8, .ref q16, .ref q24, .null, .null, .null, .null, .null, .null, .null, .null])), (q8, .inl (cA 0, 288, .inl (fun _ => 0))), (q16, .inl (cA 0, 12, .inl (fun _ => 0))), (q24, .inl (cA 0, 6, .inl (fun _ => 0))), (q32, .inl (cA 1, 6, .inl (fun _ => 0)))] H := hP
  have hD : va_D A [(h0, .inr (6, [.int 0, .int 0, .int 0, .ref q8, .ref q16, .ref q24, .null, .null, .null, .null, .null, .null, .null, .null])), (q8, .inl (cA 0, 288, .inl (fun _ => 0))), (q16, .inl (cA 0, 12, .inl (fun _ => 0))), (q24, .inl (cA 0, 6, .inl (fun _ => 0))), (q32, .inl (cA 1, 6, .inl (fun _ => 0)))] := hD
  refine W.widen (k := 4) (n := 312) (by decide) (by decide) ?_
  refine va_put (D := D) (ci := 6) (v := .ref q32) (ty := (.array .boolean)) (C := R_Model) (T := F_Model) (N := 14) hx hb hw u_Model t_Model kt_Model kf_Model hown hK hP hD hS 0 rfl rfl 6 (by decide) (hw (.fieldLink R_Model 19 "BindingKernelModel" "changed" "[Z") (kb_all_in (List.mem_of_getElem? (i := 527) rfl) rfl)) (fun _ h9 => h9) rfl (by decide +kernel) rfl rfl (Nat.le_of_ble_eq_true rfl) dn_Model_34 (fun H locs hP hD hS => ?_)
  have hP : va_P D kb_cl [(h0, .inr (6, [.int 0, .int 0, .int 0, .ref q8, .ref q16, .ref q24, .ref q32, .null, .null, .null, .null, .null, .null, .null])), (q8, .inl (cA 0, 288, .inl (fun _ => 0))), (q16, .inl (cA 0, 12, .inl (fun _ => 0))), (q24, .inl (cA 0, 6, .inl (fun _ => 0))), (q32, .inl (cA 1, 6, .inl (fun _ => 0)))] H := hP
  have hD : va_D A [(h0, .inr (6, [.int 0, .int 0, .int 0, .ref q8, .ref q16, .ref q24, .ref q32, .null, .null, .null, .null, .null, .null, .null])), (q8, .inl (cA 0, 288, .inl (fun _ => 0))), (q16, .inl (cA 0, 12, .inl (fun _ => 0))), (q24, .inl (cA 0, 6, .inl (fun _ => 0))), (q32, .inl (cA 1, 6, .inl (fun _ => 0)))] := hD
  refine lv_aload_n hx hb dn_Model_37 rfl (lv_at hl 0 rfl) ?_
  refine lv_iconst (v := 2) hx hb dn_Model_38 (by decide) ?_
  refine kn_newa (atype := .int) (ty := .int) (f := fun _ => 0) (N' := 2) hx hb (hw (.arrayClass .int) (kb_all_in (List.mem_of_getElem? (i := 81) rfl) rfl)) rfl hK hP hD hS hA 0 rfl (fun _ => rfl) (by decide) (by decide) (by decide) (Nat.le_of_ble_eq_true rfl) (Nat.le_of_ble_eq_true rfl) dn_Model_39 (fun q39 H hP hD hS => ?_)
  have hP : va_P D kb_cl [(h0, .inr (6, [.int 0, .int 0, .int 0, .ref q8, .ref q16, .ref q24, .ref q32, .null, .null, .null, .null, .null, .null, .null])), (q8, .inl (cA 0, 288, .inl (fun _ => 0))), (q16, .inl (cA 0, 12, .inl (fun _ => 0))), (q24, .inl (cA 0, 6, .inl (fun _ => 0))), (q32, .inl (cA 1, 6, .inl (fun _ => 0))), (q39, .inl (cA 0, 2, .inl (fun _ => 0)))] H := hP
  have hD : va_D A [(h0, .inr (6, [.int 0, .int 0, .int 0, .ref q8, .ref q16, .ref q24, .ref q32, .null, .null, .null, .null, .null, .null, .null])), (q8, .inl (cA 0, 288, .inl (fun _ => 0))), (q16, .inl (cA 0, 12, .inl (fun _ => 0))), (q24, .inl (cA 0, 6, .inl (fun _ => 0))), (q32, .inl (cA 1, 6, .inl (fun _ => 0))), (q39, .inl (cA 0, 2, .inl (fun _ => 0)))] := hD
  refine W.widen (k := 5) (n := 314) (by decide) (by decide) ?_
  refine va_put (D := D) (ci := 6) (v := .ref q39) (ty := (.array .int)) (C := R_Model) (T := F_Model) (N := 14) hx hb hw u_Model t_Model kt_Model kf_Model hown hK hP hD hS 0 rfl rfl 7 (by decide) (hw (.fieldLink R_Model 23 "BindingKernelModel" "frames" "[I") (kb_all_in (List.mem_of_getElem? (i := 528) rfl) rfl)) (fun _ h9 => h9) rfl (by decide +kernel) rfl rfl (Nat.le_of_ble_eq_true rfl) dn_Model_41 (fun H locs hP hD hS => ?_)
  have hP : va_P D kb_cl [(h0, .inr (6, [.int 0, .int 0, .int 0, .ref q8, .ref q16, .ref q24, .ref q32, .ref q39, .null, .null, .null, .null, .null, .null])), (q8, .inl (cA 0, 288, .inl (fun _ => 0))), (q16, .inl (cA 0, 12, .inl (fun _ => 0))), (q24, .inl (cA 0, 6, .inl (fun _ => 0))), (q32, .inl (cA 1, 6, .inl (fun _ => 0))), (q39, .inl (cA 0, 2, .inl (fun _ => 0)))] H := hP
  have hD : va_D A [(h0, .inr (6, [.int 0, .int 0, .int 0, .ref q8, .ref q16, .ref q24, .ref q32, .ref q39, .null, .null, .null, .null, .null, .null])), (q8, .inl (cA 0, 288, .inl (fun _ => 0))), (q16, .inl (cA 0, 12, .inl (fun _ => 0))), (q24, .inl (cA 0, 6, .inl (fun _ => 0))), (q32, .inl (cA 1, 6, .inl (fun _ => 0))), (q39, .inl (cA 0, 2, .inl (fun _ => 0)))] := hD
  refine lv_aload_n hx hb dn_Model_44 rfl (lv_at hl 0 rfl) ?_
  refine lv_iconst (v := 2) hx hb dn_Model_45 (by decide) ?_
  refine kn_newa (atype := .int) (ty := .int) (f := fun _ => 0) (N' := 2) hx hb (hw (.arrayClass .int) (kb_all_in (List.mem_of_getElem? (i := 81) rfl) rfl)) rfl hK hP hD hS hA 0 rfl (fun _ => rfl) (by decide) (by decide) (by decide) (Nat.le_of_ble_eq_true rfl) (Nat.le_of_ble_eq_true rfl) dn_Model_46 (fun q46 H hP hD hS => ?_)
  have hP : va_P D kb_cl [(h0, .inr (6, [.int 0, .int 0, .int 0, .ref q8, .ref q16, .ref q24, .ref q32, .ref q39, .null, .null, .null, .null, .null, .null])), (q8, .inl (cA 0, 288, .inl (fun _ => 0))), (q16, .inl (cA 0, 12, .inl (fun _ => 0))), (q24, .inl (cA 0, 6, .inl (fun _ => 0))), (q32, .inl (cA 1, 6, .inl (fun _ => 0))), (q39, .inl (cA 0, 2, .inl (fun _ => 0))), (q46, .inl (cA 0, 2, .inl (fun _ => 0)))] H := hP
  have hD : va_D A [(h0, .inr (6, [.int 0, .int 0, .int 0, .ref q8, .ref q16, .ref q24, .ref q32, .ref q39, .null, .null, .null, .null, .null, .null])), (q8, .inl (cA 0, 288, .inl (fun _ => 0))), (q16, .inl (cA 0, 12, .inl (fun _ => 0))), (q24, .inl (cA 0, 6, .inl (fun _ => 0))), (q32, .inl (cA 1, 6, .inl (fun _ => 0))), (q39, .inl (cA 0, 2, .inl (fun _ => 0))), (q46, .inl (cA 0, 2, .inl (fun _ => 0)))] := hD
  refine W.widen (k := 6) (n := 316) (by decide) (by decide) ?_
  refine va_put (D := D) (ci := 6) (v := .ref q46) (ty := (.array .int)) (C := R_Model) (T := F_Model) (N := 14) hx hb hw u_Model t_Model kt_Model kf_Model hown hK hP hD hS 0 rfl rfl 8 (by decide) (hw (.fieldLink R_Model 26 "BindingKernelModel" "bound" "[I") (kb_all_in (List.mem_of_getElem? (i := 529) rfl) rfl)) (fun _ h9 => h9) rfl (by decide +kernel) rfl rfl (Nat.le_of_ble_eq_true rfl) dn_Model_48 (fun H locs hP hD hS => ?_)
  have hP : va_P D kb_cl [(h0, .inr (6, [.int 0, .int 0, .int 0, .ref q8, .ref q16, .ref q24, .ref q32, .ref q39, .ref q46, .null, .null, .null, .null, .null])), (q8, .inl (cA 0, 288, .inl (fun _ => 0))), (q16, .inl (cA 0, 12, .inl (fun _ => 0))), (q24, .inl (cA 0, 6, .inl (fun _ => 0))), (q32, .inl (cA 1, 6, .inl (fun _ => 0))), (q39, .inl (cA 0, 2, .inl (fun _ => 0))), (q46, .inl (cA 0, 2, .inl (fun _ => 0)))] H := hP
  have hD : va_D A [(h0, .inr (6, [.int 0, .int 0, .int 0, .ref q8, .ref q16, .ref q24, .ref q32, .ref q39, .ref q46, .null, .null, .null, .null, .null])), (q8, .inl (cA 0, 288, .inl (fun _ => 0))), (q16, .inl (cA 0, 12, .inl (fun _ => 0))), (q24, .inl (cA 0, 6, .inl (fun _ => 0))), (q32, .inl (cA 1, 6, .inl (fun _ => 0))), (q39, .inl (cA 0, 2, .inl (fun _ => 0))), (q46, .inl (cA 0, 2, .inl (fun _ => 0)))] := hD
  refine lv_aload_n hx hb dn_Model_51 rfl (lv_at hl 0 rfl) ?_
  refine lv_iconst (v := 2) hx hb dn_Model_52 (by decide) ?_
  refine kn_newa (atype := .int) (ty := .int) (f := fun _ => 0) (N' := 2) hx hb (hw (.arrayClass .int) (kb_all_in (List.mem_of_getElem? (i := 81) rfl) rfl)) rfl hK hP hD hS hA 0 rfl (fun _ => rfl) (by decide) (by decide) (by decide) (Nat.le_of_ble_eq_true rfl) (Nat.le_of_ble_eq_true rfl) dn_Model_53 (fun q53 H hP hD hS => ?_)
  have hP : va_P D kb_cl [(h0, .inr (6, [.int 0, .int 0, .int 0, .ref q8, .ref q16, .ref q24, .ref q32, .ref q39, .ref q46, .null, .null, .null, .null, .null])), (q8, .inl (cA 0, 288, .inl (fun _ => 0))), (q16, .inl (cA 0, 12, .inl (fun _ => 0))), (q24, .inl (cA 0, 6, .inl (fun _ => 0))), (q32, .inl (cA 1, 6, .inl (fun _ => 0))), (q39, .inl (cA 0, 2, .inl (fun _ => 0))), (q46, .inl (cA 0, 2, .inl (fun _ => 0))), (q53, .inl (cA 0, 2, .inl (fun _ => 0)))] H := hP
  have hD : va_D A [(h0, .inr (6, [.int 0, .int 0, .int 0, .ref q8, .ref q16, .ref q24, .ref q32, .ref q39, .ref q46, .null, .null, .null, .null, .null])), (q8, .inl (cA 0, 288, .inl (fun _ => 0))), (q16, .inl (cA 0, 12, .inl (fun _ => 0))), (q24, .inl (cA 0, 6, .inl (fun _ => 0))), (q32, .inl (cA 1, 6, .inl (fun _ => 0))), (q39, .inl (cA 0, 2, .inl (fun _ => 0))), (q46, .inl (cA 0, 2, .inl (fun _ => 0))), (q53, .inl (cA 0, 2, .inl (fun _ => 0)))] := hD
  refine W.widen (k := 7) (n := 318) (by decide) (by decide) ?_
  refine va_put (D := D) (ci := 6) (v := .ref q53) (ty := (.array .int)) (C := R_Model) (T := F_Model) (N := 14) hx hb hw u_Model t_Model kt_Model kf_Model hown hK hP hD hS 0 rfl rfl 9 (by decide) (hw (.fieldLink R_Model 29 "BindingKernelModel" "lost" "[I") (kb_all_in (List.mem_of_getElem? (i := 530) rfl) rfl)) (fun _ h9 => h9) rfl (by decide +kernel) rfl rfl (Nat.le_of_ble_eq_true rfl) dn_Model_55 (fun H locs hP hD hS => ?_)
  have hP : va_P D kb_cl [(h0, .inr (6, [.int 0, .int 0, .int 0, .ref q8, .ref q16, .ref q24, .ref q32, .ref q39, .ref q46, .ref q53, .null, .null, .null, .null])), (q8, .inl (cA 0, 288, .inl (fun _ => 0))), (q16, .inl (cA 0, 12, .inl (fun _ => 0))), (q24, .inl (cA 0, 6, .inl (fun _ => 0))), (q32, .inl (cA 1, 6, .inl (fun _ => 0))), (q39, .inl (cA 0, 2, .inl (fun _ => 0))), (q46, .inl (cA 0, 2, .inl (fun _ => 0))), (q53, .inl (cA 0, 2, .inl (fun _ => 0)))] H := hP
  have hD : va_D A [(h0, .inr (6, [.int 0, .int 0, .int 0, .ref q8, .ref q16, .ref q24, .ref q32, .ref q39, .ref q46, .ref q53, .null, .null, .null, .null])), (q8, .inl (cA 0, 288, .inl (fun _ => 0))), (q16, .inl (cA 0, 12, .inl (fun _ => 0))), (q24, .inl (cA 0, 6, .inl (fun _ => 0))), (q32, .inl (cA 1, 6, .inl (fun _ => 0))), (q39, .inl (cA 0, 2, .inl (fun _ => 0))), (q46, .inl (cA 0, 2, .inl (fun _ => 0))), (q53, .inl (cA 0, 2, .inl (fun _ => 0)))] := hD
  refine lv_aload_n hx hb dn_Model_58 rfl (lv_at hl 0 rfl) ?_
  refine lv_bipush (v := 120) hx hb dn_Model_59 (by decide) ?_
  refine kn_newa (atype := .boolean) (ty := .boolean) (f := fun _ => 0) (N' := 120) hx hb (hw (.arrayClass .boolean) (kb_all_in (List.mem_of_getElem? (i := 114) rfl) rfl)) rfl hK hP hD hS hA 1 rfl (fun _ => rfl) (by decide) (by decide) (by decide) (Nat.le_of_ble_eq_true rfl) (Nat.le_of_ble_eq_true rfl) dn_Model_61 (fun q61 H hP hD hS => ?_)
  have hP : va_P D kb_cl [(h0, .inr (6, [.int 0, .int 0, .int 0, .ref q8, .ref q16, .ref q24, .ref q32, .ref q39, .ref q46, .ref q53, .null, .null, .null, .null])), (q8, .inl (cA 0, 288, .inl (fun _ => 0))), (q16, .inl (cA 0, 12, .inl (fun _ => 0))), (q24, .inl (cA 0, 6, .inl (fun _ => 0))), (q32, .inl (cA 1, 6, .inl (fun _ => 0))), (q39, .inl (cA 0, 2, .inl (fun _ => 0))), (q46, .inl (cA 0, 2, .inl (fun _ => 0))), (q53, .inl (cA 0, 2, .inl (fun _ => 0))), (q61, .inl (cA 1, 120, .inl (fun _ => 0)))] H := hP
  have hD : va_D A [(h0, .inr (6, [.int 0, .int 0, .int 0, .ref q8, .ref q16, .ref q24, .ref q32, .ref q39, .ref q46, .ref q53, .null, .null, .null, .null])), (q8, .inl (cA 0, 288, .inl (fun _ => 0))), (q16, .inl (cA 0, 12, .inl (fun _ => 0))), (q24, .inl (cA 0, 6, .inl (fun _ => 0))), (q32, .inl (cA 1, 6, .inl (fun _ => 0))), (q39, .inl (cA 0, 2, .inl (fun _ => 0))), (q46, .inl (cA 0, 2, .inl (fun _ => 0))), (q53, .inl (cA 0, 2, .inl (fun _ => 0))), (q61, .inl (cA 1, 120, .inl (fun _ => 0)))] := hD
  refine W.widen (k := 8) (n := 438) (by decide) (by decide) ?_
  refine va_put (D := D) (ci := 6) (v := .ref q61) (ty := (.array .boolean)) (C := R_Model) (T := F_Model) (N := 14) hx hb hw u_Model t_Model kt_Model kf_Model hown hK hP hD hS 0 rfl rfl 10 (by decide) (hw (.fieldLink R_Model 32 "BindingKernelModel" "isBlock" "[Z") (kb_all_in (List.mem_of_getElem? (i := 531) rfl) rfl)) (fun _ h9 => h9) rfl (by decide +kernel) rfl rfl (Nat.le_of_ble_eq_true rfl) dn_Model_63 (fun H locs hP hD hS => ?_)
  have hP : va_P D kb_cl [(h0, .inr (6, [.int 0, .int 0, .int 0, .ref q8, .ref q16, .ref q24, .ref q32, .ref q39, .ref q46, .ref q53, .ref q61, .null, .null, .null])), (q8, .inl (cA 0, 288, .inl (fun _ => 0))), (q16, .inl (cA 0, 12, .inl (fun _ => 0))), (q24, .inl (cA 0, 6, .inl (fun _ => 0))), (q32, .inl (cA 1, 6, .inl (fun _ => 0))), (q39, .inl (cA 0, 2, .inl (fun _ => 0))), (q46, .inl (cA 0, 2, .inl (fun _ => 0))), (q53, .inl (cA 0, 2, .inl (fun _ => 0))), (q61, .inl (cA 1, 120, .inl (fun _ => 0)))] H := hP
  have hD : va_D A [(h0, .inr (6, [.int 0, .int 0, .int 0, .ref q8, .ref q16, .ref q24, .ref q32, .ref q39, .ref q46, .ref q53, .ref q61, .null, .null, .null])), (q8, .inl (cA 0, 288, .inl (fun _ => 0))), (q16, .inl (cA 0, 12, .inl (fun _ => 0))), (q24, .inl (cA 0, 6, .inl (fun _ => 0))), (q32, .inl (cA 1, 6, .inl (fun _ => 0))), (q39, .inl (cA 0, 2, .inl (fun _ => 0))), (q46, .inl (cA 0, 2, .inl (fun _ => 0))), (q53, .inl (cA 0, 2, .inl (fun _ => 0))), (q61, .inl (cA 1, 120, .inl (fun _ => 0)))] := hD
  refine lv_aload_n hx hb dn_Model_66 rfl (lv_at hl 0 rfl) ?_
  refine lv_bipush (v := 120) hx hb dn_Model_67 (by decide) ?_
  refine kn_newa (atype := .int) (ty := .int) (f := fun _ => 0) (N' := 120) hx hb (hw (.arrayClass .int) (kb_all_in (List.mem_of_getElem? (i := 81) rfl) rfl)) rfl hK hP hD hS hA 0 rfl (fun _ => rfl) (by decide) (by decide) (by decide) (Nat.le_of_ble_eq_true rfl) (Nat.le_of_ble_eq_true rfl) dn_Model_69 (fun q69 H hP hD hS => ?_)
  have hP : va_P D kb_cl [(h0, .inr (6, [.int 0, .int 0, .int 0, .ref q8, .ref q16, .ref q24, .ref q32, .ref q39, .ref q46, .ref q53, .ref q61, .null, .null, .null])), (q8, .inl (cA 0, 288, .inl (fun _ => 0))), (q16, .inl (cA 0, 12, .inl (fun _ => 0))), (q24, .inl (cA 0, 6, .inl (fun _ => 0))), (q32, .inl (cA 1, 6, .inl (fun _ => 0))), (q39, .inl (cA 0, 2, .inl (fun _ => 0))), (q46, .inl (cA 0, 2, .inl (fun _ => 0))), (q53, .inl (cA 0, 2, .inl (fun _ => 0))), (q61, .inl (cA 1, 120, .inl (fun _ => 0))), (q69, .inl (cA 0, 120, .inl (fun _ => 0)))] H := hP
  have hD : va_D A [(h0, .inr (6, [.int 0, .int 0, .int 0, .ref q8, .ref q16, .ref q24, .ref q32, .ref q39, .ref q46, .ref q53, .ref q61, .null, .null, .null])), (q8, .inl (cA 0, 288, .inl (fun _ => 0))), (q16, .inl (cA 0, 12, .inl (fun _ => 0))), (q24, .inl (cA 0, 6, .inl (fun _ => 0))), (q32, .inl (cA 1, 6, .inl (fun _ => 0))), (q39, .inl (cA 0, 2, .inl (fun _ => 0))), (q46, .inl (cA 0, 2, .inl (fun _ => 0))), (q53, .inl (cA 0, 2, .inl (fun _ => 0))), (q61, .inl (cA 1, 120, .inl (fun _ => 0))), (q69, .inl (cA 0, 120, .inl (fun _ => 0)))] := hD
  refine W.widen (k := 9) (n := 558) (by decide) (by decide) ?_
  refine va_put (D := D) (ci := 6) (v := .ref q69) (ty := (.array .int)) (C := R_Model) (T := F_Model) (N := 14) hx hb hw u_Model t_Model kt_Model kf_Model hown hK hP hD hS 0 rfl rfl 11 (by decide) (hw (.fieldLink R_Model 35 "BindingKernelModel" "state" "[I") (kb_all_in (List.mem_of_getElem? (i := 532) rfl) rfl)) (fun _ h9 => h9) rfl (by decide +kernel) rfl rfl (Nat.le_of_ble_eq_true rfl) dn_Model_71 (fun H locs hP hD hS => ?_)
  have hP : va_P D kb_cl [(h0, .inr (6, [.int 0, .int 0, .int 0, .ref q8, .ref q16, .ref q24, .ref q32, .ref q39, .ref q46, .ref q53, .ref q61, .ref q69, .null, .null])), (q8, .inl (cA 0, 288, .inl (fun _ => 0))), (q16, .inl (cA 0, 12, .inl (fun _ => 0))), (q24, .inl (cA 0, 6, .inl (fun _ => 0))), (q32, .inl (cA 1, 6, .inl (fun _ => 0))), (q39, .inl (cA 0, 2, .inl (fun _ => 0))), (q46, .inl (cA 0, 2, .inl (fun _ => 0))), (q53, .inl (cA 0, 2, .inl (fun _ => 0))), (q61, .inl (cA 1, 120, .inl (fun _ => 0))), (q69, .inl (cA 0, 120, .inl (fun _ => 0)))] H := hP
  have hD : va_D A [(h0, .inr (6, [.int 0, .int 0, .int 0, .ref q8, .ref q16, .ref q24, .ref q32, .ref q39, .ref q46, .ref q53, .ref q61, .ref q69, .null, .null])), (q8, .inl (cA 0, 288, .inl (fun _ => 0))), (q16, .inl (cA 0, 12, .inl (fun _ => 0))), (q24, .inl (cA 0, 6, .inl (fun _ => 0))), (q32, .inl (cA 1, 6, .inl (fun _ => 0))), (q39, .inl (cA 0, 2, .inl (fun _ => 0))), (q46, .inl (cA 0, 2, .inl (fun _ => 0))), (q53, .inl (cA 0, 2, .inl (fun _ => 0))), (q61, .inl (cA 1, 120, .inl (fun _ => 0))), (q69, .inl (cA 0, 120, .inl (fun _ => 0)))] := hD
  refine lv_aload_n hx hb dn_Model_74 rfl (lv_at hl 0 rfl) ?_
  refine lv_bipush (v := 120) hx hb dn_Model_75 (by decide) ?_
  refine kn_newa (atype := .int) (ty := .int) (f := fun _ => 0) (N' := 120) hx hb (hw (.arrayClass .int) (kb_all_in (List.mem_of_getElem? (i := 81) rfl) rfl)) rfl hK hP hD hS hA 0 rfl (fun _ => rfl) (by decide) (by decide) (by decide) (Nat.le_of_ble_eq_true rfl) (Nat.le_of_ble_eq_true rfl) dn_Model_77 (fun q77 H hP hD hS => ?_)
  have hP : va_P D kb_cl [(h0, .inr (6, [.int 0, .int 0, .int 0, .ref q8, .ref q16, .ref q24, .ref q32, .ref q39, .ref q46, .ref q53, .ref q61, .ref q69, .null, .null])), (q8, .inl (cA 0, 288, .inl (fun _ => 0))), (q16, .inl (cA 0, 12, .inl (fun _ => 0))), (q24, .inl (cA 0, 6, .inl (fun _ => 0))), (q32, .inl (cA 1, 6, .inl (fun _ => 0))), (q39, .inl (cA 0, 2, .inl (fun _ => 0))), (q46, .inl (cA 0, 2, .inl (fun _ => 0))), (q53, .inl (cA 0, 2, .inl (fun _ => 0))), (q61, .inl (cA 1, 120, .inl (fun _ => 0))), (q69, .inl (cA 0, 120, .inl (fun _ => 0))), (q77, .inl (cA 0, 120, .inl (fun _ => 0)))] H := hP
  have hD : va_D A [(h0, .inr (6, [.int 0, .int 0, .int 0, .ref q8, .ref q16, .ref q24, .ref q32, .ref q39, .ref q46, .ref q53, .ref q61, .ref q69, .null, .null])), (q8, .inl (cA 0, 288, .inl (fun _ => 0))), (q16, .inl (cA 0, 12, .inl (fun _ => 0))), (q24, .inl (cA 0, 6, .inl (fun _ => 0))), (q32, .inl (cA 1, 6, .inl (fun _ => 0))), (q39, .inl (cA 0, 2, .inl (fun _ => 0))), (q46, .inl (cA 0, 2, .inl (fun _ => 0))), (q53, .inl (cA 0, 2, .inl (fun _ => 0))), (q61, .inl (cA 1, 120, .inl (fun _ => 0))), (q69, .inl (cA 0, 120, .inl (fun _ => 0))), (q77, .inl (cA 0, 120, .inl (fun _ => 0)))] := hD
  refine W.widen (k := 10) (n := 678) (by decide) (by decide) ?_
  refine va_put (D := D) (ci := 6) (v := .ref q77) (ty := (.array .int)) (C := R_Model) (T := F_Model) (N := 14) hx hb hw u_Model t_Model kt_Model kf_Model hown hK hP hD hS 0 rfl rfl 12 (by decide) (hw (.fieldLink R_Model 38 "BindingKernelModel" "deadline" "[I") (kb_all_in (List.mem_of_getElem? (i := 533) rfl) rfl)) (fun _ h9 => h9) rfl (by decide +kernel) rfl rfl (Nat.le_of_ble_eq_true rfl) dn_Model_79 (fun H locs hP hD hS => ?_)
  have hP : va_P D kb_cl [(h0, .inr (6, [.int 0, .int 0, .int 0, .ref q8, .ref q16, .ref q24, .ref q32, .ref q39, .ref q46, .ref q53, .ref q61, .ref q69, .ref q77, .null])), (q8, .inl (cA 0, 288, .inl (fun _ => 0))), (q16, .inl (cA 0, 12, .inl (fun _ => 0))), (q24, .inl (cA 0, 6, .inl (fun _ => 0))), (q32, .inl (cA 1, 6, .inl (fun _ => 0))), (q39, .inl (cA 0, 2, .inl (fun _ => 0))), (q46, .inl (cA 0, 2, .inl (fun _ => 0))), (q53, .inl (cA 0, 2, .inl (fun _ => 0))), (q61, .inl (cA 1, 120, .inl (fun _ => 0))), (q69, .inl (cA 0, 120, .inl (fun _ => 0))), (q77, .inl (cA 0, 120, .inl (fun _ => 0)))] H := hP
  have hD : va_D A [(h0, .inr (6, [.int 0, .int 0, .int 0, .ref q8, .ref q16, .ref q24, .ref q32, .ref q39, .ref q46, .ref q53, .ref q61, .ref q69, .ref q77, .null])), (q8, .inl (cA 0, 288, .inl (fun _ => 0))), (q16, .inl (cA 0, 12, .inl (fun _ => 0))), (q24, .inl (cA 0, 6, .inl (fun _ => 0))), (q32, .inl (cA 1, 6, .inl (fun _ => 0))), (q39, .inl (cA 0, 2, .inl (fun _ => 0))), (q46, .inl (cA 0, 2, .inl (fun _ => 0))), (q53, .inl (cA 0, 2, .inl (fun _ => 0))), (q61, .inl (cA 1, 120, .inl (fun _ => 0))), (q69, .inl (cA 0, 120, .inl (fun _ => 0))), (q77, .inl (cA 0, 120, .inl (fun _ => 0)))] := hD
  refine lv_aload_n hx hb dn_Model_82 rfl (lv_at hl 0 rfl) ?_
  refine lv_sipush (v := 480) hx hb dn_Model_83 (by decide) ?_
  refine kn_newa (atype := .int) (ty := .int) (f := fun _ => 0) (N' := 480) hx hb (hw (.arrayClass .int) (kb_all_in (List.mem_of_getElem? (i := 81) rfl) rfl)) rfl hK hP hD hS hA 0 rfl (fun _ => rfl) (by decide) (by decide) (by decide) (Nat.le_of_ble_eq_true rfl) (Nat.le_of_ble_eq_true rfl) dn_Model_86 (fun q86 H hP hD hS => ?_)
  have hP : va_P D kb_cl [(h0, .inr (6, [.int 0, .int 0, .int 0, .ref q8, .ref q16, .ref q24, .ref q32, .ref q39, .ref q46, .ref q53, .ref q61, .ref q69, .ref q77, .null])), (q8, .inl (cA 0, 288, .inl (fun _ => 0))), (q16, .inl (cA 0, 12, .inl (fun _ => 0))), (q24, .inl (cA 0, 6, .inl (fun _ => 0))), (q32, .inl (cA 1, 6, .inl (fun _ => 0))), (q39, .inl (cA 0, 2, .inl (fun _ => 0))), (q46, .inl (cA 0, 2, .inl (fun _ => 0))), (q53, .inl (cA 0, 2, .inl (fun _ => 0))), (q61, .inl (cA 1, 120, .inl (fun _ => 0))), (q69, .inl (cA 0, 120, .inl (fun _ => 0))), (q77, .inl (cA 0, 120, .inl (fun _ => 0))), (q86, .inl (cA 0, 480, .inl (fun _ => 0)))] H := hP
  have hD : va_D A [(h0, .inr (6, [.int 0, .int 0, .int 0, .ref q8, .ref q16, .ref q24, .ref q32, .ref q39, .ref q46, .ref q53, .ref q61, .ref q69, .ref q77, .null])), (q8, .inl (cA 0, 288, .inl (fun _ => 0))), (q16, .inl (cA 0, 12, .inl (fun _ => 0))), (q24, .inl (cA 0, 6, .inl (fun _ => 0))), (q32, .inl (cA 1, 6, .inl (fun _ => 0))), (q39, .inl (cA 0, 2, .inl (fun _ => 0))), (q46, .inl (cA 0, 2, .inl (fun _ => 0))), (q53, .inl (cA 0, 2, .inl (fun _ => 0))), (q61, .inl (cA 1, 120, .inl (fun _ => 0))), (q69, .inl (cA 0, 120, .inl (fun _ => 0))), (q77, .inl (cA 0, 120, .inl (fun _ => 0))), (q86, .inl (cA 0, 480, .inl (fun _ => 0)))] := hD
  refine W.widen (k := 11) (n := 1158) (by decide) (by decide) ?_
  refine va_put (D := D) (ci := 6) (v := .ref q86) (ty := (.array .int)) (C := R_Model) (T := F_Model) (N := 14) hx hb hw u_Model t_Model kt_Model kf_Model hown hK hP hD hS 0 rfl rfl 13 (by decide) (hw (.fieldLink R_Model 41 "BindingKernelModel" "held" "[I") (kb_all_in (List.mem_of_getElem? (i := 534) rfl) rfl)) (fun _ h9 => h9) rfl (by decide +kernel) rfl rfl (Nat.le_of_ble_eq_true rfl) dn_Model_88 (fun H locs hP hD hS => ?_)
  have hP : va_P D kb_cl [(h0, .inr (6, [.int 0, .int 0, .int 0, .ref q8, .ref q16, .ref q24, .ref q32, .ref q39, .ref q46, .ref q53, .ref q61, .ref q69, .ref q77, .ref q86])), (q8, .inl (cA 0, 288, .inl (fun _ => 0))), (q16, .inl (cA 0, 12, .inl (fun _ => 0))), (q24, .inl (cA 0, 6, .inl (fun _ => 0))), (q32, .inl (cA 1, 6, .inl (fun _ => 0))), (q39, .inl (cA 0, 2, .inl (fun _ => 0))), (q46, .inl (cA 0, 2, .inl (fun _ => 0))), (q53, .inl (cA 0, 2, .inl (fun _ => 0))), (q61, .inl (cA 1, 120, .inl (fun _ => 0))), (q69, .inl (cA 0, 120, .inl (fun _ => 0))), (q77, .inl (cA 0, 120, .inl (fun _ => 0))), (q86, .inl (cA 0, 480, .inl (fun _ => 0)))] H := hP
  have hD : va_D A [(h0, .inr (6, [.int 0, .int 0, .int 0, .ref q8, .ref q16, .ref q24, .ref q32, .ref q39, .ref q46, .ref q53, .ref q61, .ref q69, .ref q77, .ref q86])), (q8, .inl (cA 0, 288, .inl (fun _ => 0))), (q16, .inl (cA 0, 12, .inl (fun _ => 0))), (q24, .inl (cA 0, 6, .inl (fun _ => 0))), (q32, .inl (cA 1, 6, .inl (fun _ => 0))), (q39, .inl (cA 0, 2, .inl (fun _ => 0))), (q46, .inl (cA 0, 2, .inl (fun _ => 0))), (q53, .inl (cA 0, 2, .inl (fun _ => 0))), (q61, .inl (cA 1, 120, .inl (fun _ => 0))), (q69, .inl (cA 0, 120, .inl (fun _ => 0))), (q77, .inl (cA 0, 120, .inl (fun _ => 0))), (q86, .inl (cA 0, 480, .inl (fun _ => 0)))] := hD
  have hP : va_P D kb_cl [(h0, .inr (6, [.int 0, .int 0, .int 0, .ref q8, .ref q16, .ref q24, .ref q32, .ref q39, .ref q46, .ref q53, .ref q61, .ref q69, .ref q77, .ref q86])), (q8, .inl (cA 0, 288, .inl (fun _ => 0))), (q16, .inl (cA 0, 12, .inl (fun _ => 0))), (q24, .inl (cA 0, 6, .inl (fun _ => 0))), (q32, .inl (cA 1, 6, .inl (fun _ => 0))), (q39, .inl (cA 0, 2, .inl (fun _ => 0))), (q46, .inl (cA 0, 2, .inl (fun _ => 0))), (q53, .inl (cA 0, 2, .inl (fun _ => 0))), (q61, .inl (cA 1, 120, .inl (fun _ => 0))), (q69, .inl (cA 0, 120, .inl (fun _ => 0))), (q77, .inl (cA 0, 120, .inl (fun _ => 0))), (q86, .inl (cA 0, 480, .inl (fun _ => 0)))] H := hP
  have hD : va_D A [(h0, .inr (6, [.int 0, .int 0, .int 0, .ref q8, .ref q16, .ref q24, .ref q32, .ref q39, .ref q46, .ref q53, .ref q61, .ref q69, .ref q77, .ref q86])), (q8, .inl (cA 0, 288, .inl (fun _ => 0))), (q16, .inl (cA 0, 12, .inl (fun _ => 0))), (q24, .inl (cA 0, 6, .inl (fun _ => 0))), (q32, .inl (cA 1, 6, .inl (fun _ => 0))), (q39, .inl (cA 0, 2, .inl (fun _ => 0))), (q46, .inl (cA 0, 2, .inl (fun _ => 0))), (q53, .inl (cA 0, 2, .inl (fun _ => 0))), (q61, .inl (cA 1, 120, .inl (fun _ => 0))), (q69, .inl (cA 0, 120, .inl (fun _ => 0))), (q77, .inl (cA 0, 120, .inl (fun _ => 0))), (q86, .inl (cA 0, 480, .inl (fun _ => 0)))] := hD
  exact W.vret hx hb hr (fun t ht hW => ⟨⟨(fun k => [q8, q16, q24, q32, q39, q46, q53, q61, q69, q77, q86].getD k 0), rfl, trivial, by rw [ht]; exact kn_Psub hP [0, 1, 2, 3, 4, 5, 6, 7, 8, 9, 10, 11] rfl, va_K.moved hW.alike hK, hD.sub [0, 1, 2, 3, 4, 5, 6, 7, 8, 9, 10, 11] (by decide) rfl⟩, hS.F ht⟩) hS.2.2 dn_Model_91
