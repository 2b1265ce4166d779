/-! the law's loop, and its walk from the entry -/
theorem kn_goodA {z : MethodName} {d : ByteArray} {k : Nat} (h : Cond.code z d k none ∈ kb_all) : GoodIn kb_all (kn_wo z d k) := by
  intro w hw
  rcases List.mem_cons.mp hw with rfl | hw
  · exact ⟨h, good_of_word (List.mem_filter.mp h).2⟩
  · exact ⟨hw, good_of_word (List.mem_filter.mp hw).2⟩
theorem kw_le {L i : Nat} (hL : L ≤ 2560) (hiL : i ≤ L) (h5 : ∃ n, i = 5 * n) (h : ¬ Int32.ofNat L - 5 < nI i) : i + 5 ≤ L := by
  by_cases hl : 5 ≤ L
  · have e : Int32.ofNat L - 5 = nI (L - 5) := by
      have h1 : nI (L - 5) + nI 5 = nI L := by rw [nI_add]; congr 1; omega
      have h2 : nI L - nI 5 = nI (L - 5) := by rw [← h1, Int32.add_sub_cancel]
      exact h2
    rw [e, nI_ltI (by omega) (by omega)] at h
    omega
  · exfalso
    obtain ⟨n, hn⟩ := h5
    have hi0 : i = 0 := by omega
    subst hi0
    have : L < 5 := by omega
    match L, this with
    | 0, _ => exact h (by decide)
    | 1, _ => exact h (by decide)
    | 2, _ => exact h (by decide)
    | 3, _ => exact h (by decide)
    | 4, _ => exact h (by decide)
section KWL
variable {p : Program} {l : Launch} {e : Env} {s : State} {m : MethodId} {below : List Frame} {meth : Method} {c : Code} {D : va_G} {ad : Nat → Nat} {cA : Nat → ClassId} {b L : Nat} {xs : Nat → Int32}
set_option maxRecDepth 100000 in
theorem kw_loop (C : kw_C p s m c #[Value.ref b] D ad cA b L xs) (hr : meth.sig.returnType = ret) (hlocks : meth.locks = false) : ∀ (k N i : Nat) (M : kb_M), i = 5 * N → i ≤ L → L - i ≤ k → ki_V N M M → kw_At p l e s m below meth c D ad cA b i 18 M := by
  obtain ⟨⟨hx, hb, hml, hown, hts⟩, hK, hinj, hX, hbl, hA, hL⟩ := id C
  have hbA : ¬ s.heap.size ≤ b := by omega
  intro k
  induction k with
  | zero =>
    intro N i M hiN hiL hk hV ls H locs hl hP hS
    refine lv_iload_n hx hb kw_d_18 rfl (lv_at hl 3 rfl) ?_
    refine lv_aload_n hx hb kw_d_19 rfl (lv_at hl 0 rfl) ?_
    refine va_slen hx hb hX hbl hbA hS kw_d_20 ?_
    refine lv_iconst (v := 5) hx hb kw_d_21 (by decide) ?_
    refine lv_isub hx hb kw_d_22 ?_
    refine lv_icmp_gt (tgt := 858) hx hb kw_d_23 (by decide) (fun _ => ?_) (fun h => ?_)
    · refine lv_iconst (v := 1) hx hb kw_d_858 (by decide) ?_
      exact W.widen (by decide) (by decide) (va_forget (fun q hq => hS.2.2 q hq) (lw_ret hx hb hr hlocks kw_d_859))
    · have := kw_le hL hiL ⟨N, hiN⟩ h
      omega
  | succ k ih =>
    intro N i M hiN hiL hk hV ls H locs hl hP hS
    refine lv_iload_n hx hb kw_d_18 rfl (lv_at hl 3 rfl) ?_
    refine lv_aload_n hx hb kw_d_19 rfl (lv_at hl 0 rfl) ?_
    refine va_slen hx hb hX hbl hbA hS kw_d_20 ?_
    refine lv_iconst (v := 5) hx hb kw_d_21 (by decide) ?_
    refine lv_isub hx hb kw_d_22 ?_
    refine lv_icmp_gt (tgt := 858) hx hb kw_d_23 (by decide) (fun _ => ?_) (fun h => ?_)
    · refine lv_iconst (v := 1) hx hb kw_d_858 (by decide) ?_
      exact W.widen (by decide) (by decide) (va_forget (fun q hq => hS.2.2 q hq) (lw_ret hx hb hr hlocks kw_d_859))
    have hi := kw_le hL hiL ⟨N, hiN⟩ h
    have hcl : (nI i).toNatClampNeg = i := nI_clamp (by omega)
    have kk : ∀ S, ki_V (N + 1) S S → kw_At p l e s m below meth c D ad cA b i 852 S := by
      intro S hS2 ls H locs hl hP hS
      refine lv_iinc (k := 3) (v := nI (i + 5)) hx hb kw_d_852 hl rfl (by rw [show Int32.ofInt 5 = nI 5 from rfl, nI_add]) (by decide) rfl (fun ls1 hl1 => ?_)
      have hl1 : lv_has ls1 4 [(3, .int (nI (i + 5))), (0, .ref b), (1, .ref (ad 0)), (2, .ref (ad 33))] := hl1
      refine lv_goto (tgt := 18) hx hb kw_d_855 (by decide) ?_
      exact ih (N + 1) (i + 5) S (by omega) (by omega) (by omega) hS2 ls1 H locs (lv_sub hl1 [1, 2, 3, 0] rfl) hP hS
    refine lv_aload_n hx hb kw_d_26 rfl (lv_at hl 0 rfl) ?_
    refine lv_iload_n hx hb kw_d_27 rfl (lv_at hl 3 rfl) ?_
    refine va_sld hx hb hX hbl hbA hS (show vp_in (nI i) L from fun q => by
      rcases q with q | q
      · exact nI_pos (by omega) q
      · rw [hcl] at q
        omega) kw_d_28 ?_
    rw [hcl]
    refine lv_bipush (v := 31) hx hb kw_d_29 (by decide) ?_
    refine lv_iand hx hb kw_d_31 ?_
    obtain ⟨j, hj, ej⟩ := kw_and (xs i)
    rw [ej]
    match j, hj with
    | 0, _ => exact lv_tableIn (off := 96) (tgt := 128) hx hb kw_d_32 (by decide) (by decide) (by decide) (by decide) (kw_c_append C hi hV (by omega) kk ls H locs hl hP hS)
    | 1, _ => exact lv_tableIn (off := 139) (tgt := 171) hx hb kw_d_32 (by decide) (by decide) (by decide) (by decide) (kw_c_write C hi hV (by omega) kk ls H locs hl hP hS)
    | 2, _ => exact lv_tableIn (off := 192) (tgt := 224) hx hb kw_d_32 (by decide) (by decide) (by decide) (by decide) (kw_c_read C hi hV (by omega) kk ls H locs hl hP hS)
    | 3, _ => exact lv_tableIn (off := 235) (tgt := 267) hx hb kw_d_32 (by decide) (by decide) (by decide) (by decide) (kw_c_length C hi hV (by omega) kk ls H locs hl hP hS)
    | 4, _ => exact lv_tableIn (off := 268) (tgt := 300) hx hb kw_d_32 (by decide) (by decide) (by decide) (by decide) (kw_c_erase C hi hV (by omega) kk ls H locs hl hP hS)
    | 5, _ => exact lv_tableIn (off := 301) (tgt := 333) hx hb kw_d_32 (by decide) (by decide) (by decide) (by decide) (kw_c_sync C hi hV (by omega) kk ls H locs hl hP hS)
    | 6, _ => exact lv_tableIn (off := 324) (tgt := 356) hx hb kw_d_32 (by decide) (by decide) (by decide) (by decide) (kw_c_squeeze C hi hV (by omega) kk ls H locs hl hP hS)
    | 7, _ => exact lv_tableIn (off := 347) (tgt := 379) hx hb kw_d_32 (by decide) (by decide) (by decide) (by decide) (kw_c_bind C hi hV (by omega) kk ls H locs hl hP hS)
    | 8, _ => exact lv_tableIn (off := 396) (tgt := 428) hx hb kw_d_32 (by decide) (by decide) (by decide) (by decide) (kw_c_put C hi hV (by omega) kk ls H locs hl hP hS)
    | 9, _ => exact lv_tableIn (off := 449) (tgt := 481) hx hb kw_d_32 (by decide) (by decide) (by decide) (by decide) (kw_c_get C hi hV (by omega) kk ls H locs hl hP hS)
    | 10, _ => exact lv_tableIn (off := 492) (tgt := 524) hx hb kw_d_32 (by decide) (by decide) (by decide) (by decide) (kw_c_copy C hi hV (by omega) kk ls H locs hl hP hS)
    | 11, _ => exact lv_tableIn (off := 535) (tgt := 567) hx hb kw_d_32 (by decide) (by decide) (by decide) (by decide) (kw_c_release C hi hV (by omega) kk ls H locs hl hP hS)
    | 12, _ => exact lv_tableIn (off := 568) (tgt := 600) hx hb kw_d_32 (by decide) (by decide) (by decide) (by decide) (kw_c_ask C hi hV (by omega) kk ls H locs hl hP hS)
    | 13, _ => exact lv_tableIn (off := 601) (tgt := 633) hx hb kw_d_32 (by decide) (by decide) (by decide) (by decide) (kw_c_state C hi hV (by omega) kk ls H locs hl hP hS)
    | 14, _ => exact lv_tableIn (off := 634) (tgt := 666) hx hb kw_d_32 (by decide) (by decide) (by decide) (by decide) (kw_c_pass C hi hV (by omega) kk ls H locs hl hP hS)
    | 15, _ => exact lv_tableIn (off := 657) (tgt := 689) hx hb kw_d_32 (by decide) (by decide) (by decide) (by decide) (kw_c_time C hi hV (by omega) kk ls H locs hl hP hS)
    | 16, _ => exact lv_tableIn (off := 670) (tgt := 702) hx hb kw_d_32 (by decide) (by decide) (by decide) (by decide) (kw_c_free C hi hV (by omega) kk ls H locs hl hP hS)
    | 17, _ => exact lv_tableIn (off := 709) (tgt := 741) hx hb kw_d_32 (by decide) (by decide) (by decide) (by decide) (kw_c_held C hi hV (by omega) kk ls H locs hl hP hS)
    | 18, _ => exact lv_tableIn (off := 758) (tgt := 790) hx hb kw_d_32 (by decide) (by decide) (by decide) (by decide) (kw_c_losses C hi hV (by omega) kk ls H locs hl hP hS)
    | 19, _ => exact lv_tableIn (off := 781) (tgt := 813) hx hb kw_d_32 (by decide) (by decide) (by decide) (by decide) (kw_c_transfers C hi hV (by omega) kk ls H locs hl hP hS)
    | 20, _ => exact lv_tableOut (tgt := 852) hx hb kw_d_32 (Or.inr (by decide)) (by decide) (kk M (kv_up hV) ls H locs hl hP hS)
    | 21, _ => exact lv_tableOut (tgt := 852) hx hb kw_d_32 (Or.inr (by decide)) (by decide) (kk M (kv_up hV) ls H locs hl hP hS)
    | 22, _ => exact lv_tableOut (tgt := 852) hx hb kw_d_32 (Or.inr (by decide)) (by decide) (kk M (kv_up hV) ls H locs hl hP hS)
    | 23, _ => exact lv_tableOut (tgt := 852) hx hb kw_d_32 (Or.inr (by decide)) (by decide) (kk M (kv_up hV) ls H locs hl hP hS)
    | 24, _ => exact lv_tableOut (tgt := 852) hx hb kw_d_32 (Or.inr (by decide)) (by decide) (kk M (kv_up hV) ls H locs hl hP hS)
    | 25, _ => exact lv_tableOut (tgt := 852) hx hb kw_d_32 (Or.inr (by decide)) (by decide) (kk M (kv_up hV) ls H locs hl hP hS)
    | 26, _ => exact lv_tableOut (tgt := 852) hx hb kw_d_32 (Or.inr (by decide)) (by decide) (kk M (kv_up hV) ls H locs hl hP hS)
    | 27, _ => exact lv_tableOut (tgt := 852) hx hb kw_d_32 (Or.inr (by decide)) (by decide) (kk M (kv_up hV) ls H locs hl hP hS)
    | 28, _ => exact lv_tableOut (tgt := 852) hx hb kw_d_32 (Or.inr (by decide)) (by decide) (kk M (kv_up hV) ls H locs hl hP hS)
    | 29, _ => exact lv_tableOut (tgt := 852) hx hb kw_d_32 (Or.inr (by decide)) (by decide) (kk M (kv_up hV) ls H locs hl hP hS)
    | 30, _ => exact lv_tableOut (tgt := 852) hx hb kw_d_32 (Or.inr (by decide)) (by decide) (kk M (kv_up hV) ls H locs hl hP hS)
    | 31, _ => exact lv_tableOut (tgt := 852) hx hb kw_d_32 (Or.inr (by decide)) (by decide) (kk M (kv_up hV) ls H locs hl hP hS)
    | n + 32, h => exact absurd h (by omega)
end KWL
set_option maxHeartbeats 4000000 in
set_option maxRecDepth 100000 in
/-- from the entry, for every script of at most 2560 ints, the law comes to its end with true -/
theorem whole_start {p : Program} {e : Env} {s : State} {m : MethodId} {below : List Frame} {meth : Method} {c : Code} (l : Launch) {b L : Nat} {xs : Nat → Int32} (hL : L ≤ 2560) (C0 : lw_At p s m meth c b L xs) : W p l e room_1 s m #[Value.ref b] below meth c s.heap [] 0 0 (lw_Z below #[Value.ref b] s) (entryFrame m ([Value.ref b] : List Value).toArray 4) := by
  obtain ⟨hx, hb, hr, hml, hown, hts, hX, hbl, hlocks, -⟩ := C0
  have hw : ∀ w ∈ kb_all, w.before #[Value.ref b] s = true := fun w h => hts w (List.mem_filter.mp h).1
  obtain ⟨c0, i0, k0⟩ := u_known (ws := kb_all) hw u_BK (hw (.instantiable R_BK 2) (kb_all_in (List.mem_of_getElem? (i := 49) rfl) rfl))
  obtain ⟨c1, i1, k1⟩ := u_known (ws := kb_all) hw u_Kernel (hw (.instantiable R_Kernel 5) (kb_all_in (List.mem_of_getElem? (i := 57) rfl) rfl))
  obtain ⟨c2, i2, k2⟩ := u_known (ws := kb_all) hw u_Pool (hw (.instantiable R_Pool 3) (kb_all_in (List.mem_of_getElem? (i := 63) rfl) rfl))
  obtain ⟨c3, i3, k3⟩ := u_known (ws := kb_all) hw u_Guest (hw (.instantiable R_Guest 8) (kb_all_in (List.mem_of_getElem? (i := 83) rfl) rfl))
  obtain ⟨c4, i4, k4⟩ := u_known (ws := kb_all) hw u_App (hw (.instantiable R_App 8) (kb_all_in (List.mem_of_getElem? (i := 136) rfl) rfl))
  obtain ⟨c5, i5, k5⟩ := u_known (ws := kb_all) hw u_Slot (hw (.instantiable R_Slot 4) (kb_all_in (List.mem_of_getElem? (i := 144) rfl) rfl))
  obtain ⟨c6, i6, k6⟩ := u_known (ws := kb_all) hw u_Model (hw (.instantiable R_Model 14) (kb_all_in (List.mem_of_getElem? (i := 516) rfl) rfl))
  obtain ⟨a0, A0, p0, f0, g0, r0⟩ := Cond.arrayClass_spec (type := .int) (hw (.arrayClass .int) (kb_all_in (List.mem_of_getElem? (i := 81) rfl) rfl))
  obtain ⟨a1, A1, p1, f1, g1, r1⟩ := Cond.arrayClass_spec (type := .boolean) (hw (.arrayClass .boolean) (kb_all_in (List.mem_of_getElem? (i := 114) rfl) rfl))
  have o2 := (hts (.arrayOver (.object R_Slot)) (List.mem_of_getElem? (i := 142) rfl))
  have o3 := (hts (.arrayOver (.object R_App)) (List.mem_of_getElem? (i := 135) rfl))
  obtain ⟨p2, a2, A2, e2, -, g2, r2, f2⟩ := Cond.arrayOver_spec (n := R_Slot) o2
  obtain ⟨p3, a3, A3, e3, -, g3, r3, f3⟩ := Cond.arrayOver_spec (n := R_App) o3
  have hE : kn_eB s := ⟨⟨va_AO.of o2, va_Nw.of rfl (hts (.methodLinkNest R_App 38 yn_Slot "BindingKernel") (List.mem_of_getElem? (i := 145) rfl))⟩, va_AO.of o3, va_Nw.of rfl (hts (.methodLinkNest R_BK 11 yn_Kernel "BindingKernel") (List.mem_of_getElem? (i := 58) rfl))⟩
  generalize hD0 : ((fun k => match k with | 0 => c0 | 1 => c1 | 2 => c2 | 3 => c3 | 4 => c4 | 5 => c5 | _ => c6, fun k => match k with | 0 => i0 | 1 => i1 | 2 => i2 | 3 => i3 | 4 => i4 | 5 => i5 | _ => i6) : va_G) = D
  generalize hc0 : (fun k => match k with | 0 => a0 | 1 => a1 | 2 => a2 | _ => a3 : Nat → ClassId) = cA
  have hK : va_K D kb_cl (kb_ty cA) s := by
    rw [← hD0, ← hc0]
    refine ⟨fun k q hq => ?_, fun k q hq => ?_⟩
    · match k, hq with
      | 0, hq => cases hq; exact k0
      | 1, hq => cases hq; exact k1
      | 2, hq => cases hq; exact k2
      | 3, hq => cases hq; exact k3
      | 4, hq => cases hq; exact k4
      | 5, hq => cases hq; exact k5
      | 6, hq => cases hq; exact k6
      | n + 7, hq => cases hq
    · match k, hq with
      | 0, hq => cases hq; exact ⟨fun n z => ⟨fun k h => (by cases h), A0, g0, p0, r0⟩, f0⟩
      | 1, hq => cases hq; exact ⟨fun n z => ⟨fun k h => (by cases h), A1, g1, p1, r1⟩, f1⟩
      | 2, hq => cases hq; exact ⟨fun n z => ⟨fun k h => (by cases h), A2, g2, p2, r2⟩, A2, p2, g2, r2, e2, f2⟩
      | 3, hq => cases hq; exact ⟨fun n z => ⟨fun k h => (by cases h), A3, g3, p3, r3⟩, A3, p3, g3, r3, e3, f3⟩
      | n + 4, hq => cases hq
  have hA : ∀ q : Nat, s.heap.size ≤ q → (fun q => s.heap.size ≤ q) q := fun q h => h
  have hS : va_S (fun q => s.heap.size ≤ q) s.heap s.heap [] := va_S.rf
  have hP : va_P D kb_cl [] s.heap := fun k q h => by simp at h
  have hD : va_D (fun q => s.heap.size ≤ q) [] := ⟨fun i j x y h => by simp at h, fun k q h => by simp at h⟩
  have hl := lv_entry ([.ref b]) (n := 4) (Nat.le_of_ble_eq_true rfl)
  rw [lg_entry_eq]
  generalize (lg_sl ([.ref b]) ++ List.replicate (4 - (lg_sl ([.ref b])).length) Slot.unset).toArray = ls at hl ⊢
  have hl : lv_has ls 4 [(0, .ref b)] := hl
  refine va_new (ci := 0) (fs := [.null, .null]) (C := R_BK) (T := F_BK) (N := 2) hx hb hw u_BK t_BK kt_BK hown (hw (.classLink R_law 7 R_BK) (kb_all_in (List.mem_of_getElem? (i := 48) rfl) rfl)) (hw (.instantiable R_BK 2) (kb_all_in (List.mem_of_getElem? (i := 49) rfl) rfl)) (hw (.initialized R_BK) (kb_all_in (List.mem_of_getElem? (i := 38) rfl) rfl)) hK hP hD hS hA rfl (fun j hj => by match j, hj with | 0, _ => rfl | 1, _ => rfl) (Nat.le_of_ble_eq_true rfl) (Nat.le_of_ble_eq_true rfl) kw_d_0 (fun q0 H hP hD hS => ?_)
  have hP : va_P D kb_cl [(q0, .inr (0, [.null, .null]))] H := hP
  have hD : va_D (fun q => s.heap.size ≤ q) [(q0, .inr (0, [.null, .null]))] := hD
  refine W.widen (k := 1) (n := 2) (by decide) (by decide) ?_
  refine lv_dup hx hb kw_d_3 rfl ?_
  refine kn_back (wr := []) (va_runI (As := []) (rest := [.ref q0]) ⟨hx, hb, hml, hown, hw⟩ (kn_BK l D cA q0 H.size) (cwI 0 hw (kn_goodA (kb_all_in (List.mem_of_getElem? (i := 52) rfl) rfl)) rfl rfl rfl (hw (.initialized R_BK) (kb_all_in (List.mem_of_getElem? (i := 38) rfl) rfl)) (hw (.methodLink R_law 9 yn_BK) (kb_all_in (List.mem_of_getElem? (i := 50) rfl) rfl)) (hw (.instanceMethod yn_BK) (kb_all_in (List.mem_of_getElem? (i := 51) rfl) rfl)) rfl (by decide +kernel) ⟨(Nat.le_of_ble_eq_true rfl), (Nat.le_of_ble_eq_true rfl)⟩) (kn_preS kn_eB_ok hE hP hD hK [.ref q0] [0] rfl (by decide)) rfl rfl hl.1 rfl (lv_room (Nat.le_of_ble_eq_true rfl)) kw_d_4 ⟨(Nat.le_of_ble_eq_true rfl), (Nat.le_of_ble_eq_true rfl)⟩) hP hD hS hA [0] [] rfl rfl (by decide) (by decide) (fun u H locs hP hD hS => ?_)
  have hP : va_P D kb_cl [(q0, .inr (0, [.ref (u 0), .ref (u 1)])), ((u 0), .inr (1, [.int 0, .ref (u 2), .ref (u 5), .ref (u 8), .ref (u 13)])), ((u 1), .inl (cA 3, 2, .inr (.inr (.inr (.inr (fun j => [some (u 18), some (u 25)].getD j none)))))), ((u 2), .inr (2, [.int 3, .ref (u 3), .ref (u 4)])), ((u 3), .inl (cA 0, 12, .inl (fun j => if j < 12 then (-1) else 0))), ((u 4), .inl (cA 0, 48, .inl (fun _ => 0))), ((u 5), .inr (2, [.int 6, .ref (u 6), .ref (u 7)])), ((u 6), .inl (cA 0, 24, .inl (fun j => if j < 24 then (-1) else 0))), ((u 7), .inl (cA 0, 96, .inl (fun _ => 0))), ((u 8), .inr (3, [.int 0, .ref (u 2), .ref (u 5), .ref (u 9), .ref (u 10), .ref (u 11), .ref (u 12), .int 0])), ((u 9), .inl (cA 1, 60, .inl (fun _ => 0))), ((u 10), .inl (cA 0, 60, .inl (fun _ => 0))), ((u 11), .inl (cA 0, 60, .inl (fun _ => 0))), ((u 12), .inl (cA 0, 60, .inl (fun _ => 0))), ((u 13), .inr (3, [.int 0, .ref (u 2), .ref (u 5), .ref (u 14), .ref (u 15), .ref (u 16), .ref (u 17), .int 0])), ((u 14), .inl (cA 1, 60, .inl (fun _ => 0))), ((u 15), .inl (cA 0, 60, .inl (fun _ => 0))), ((u 16), .inl (cA 0, 60, .inl (fun _ => 0))), ((u 17), .inl (cA 0, 60, .inl (fun _ => 0))), ((u 18), .inr (4, [.int 0, .int 0, .ref (u 0), .int 0, .ref (u 19), .ref (u 20), .ref (u 21), .int 0])), ((u 19), .inl (cA 0, 6, .inl (fun _ => 0))), ((u 20), .inl (cA 0, 36, .inl (fun j => if j < 36 then (-1) else 0))), ((u 21), .inl (cA 2, 3, .inr (.inr (.inr (.inr (fun j => [some (u 22), some (u 23), some (u 24)].getD j none)))))), ((u 22), .inr (5, [.int (-1), .int (-1), .int 0, .int 0])), ((u 23), .inr (5, [.int (-1), .int (-1), .int 0, .int 0])), ((u 24), .inr (5, [.int (-1), .int (-1), .int 0, .int 0])), ((u 25), .inr (4, [.int 0, .int 0, .ref (u 0), .int 1, .ref (u 26), .ref (u 27), .ref (u 28), .int 0])), ((u 26), .inl (cA 0, 6, .inl (fun _ => 0))), ((u 27), .inl (cA 0, 36, .inl (fun j => if j < 36 then (-1) else 0))), ((u 28), .inl (cA 2, 3, .inr (.inr (.inr (.inr (fun j => [some (u 29), some (u 30), some (u 31)].getD j none)))))), ((u 29), .inr (5, [.int (-1), .int (-1), .int 0, .int 0])), ((u 30), .inr (5, [.int (-1), .int (-1), .int 0, .int 0])), ((u 31), .inr (5, [.int (-1), .int (-1), .int 0, .int 0]))] H := hP
  have hD : va_D (fun q => s.heap.size ≤ q) [(q0, .inr (0, [.ref (u 0), .ref (u 1)])), ((u 0), .inr (1, [.int 0, .ref (u 2), .ref (u 5), .ref (u 8), .ref (u 13)])), ((u 1), .inl (cA 3, 2, .inr (.inr (.inr (.inr (fun j => [some (u 18), some (u 25)].getD j none)))))), ((u 2), .inr (2, [.int 3, .ref (u 3), .ref (u 4)])), ((u 3), .inl (cA 0, 12, .inl (fun j => if j < 12 then (-1) else 0))), ((u 4), .inl (cA 0, 48, .inl (fun _ => 0))), ((u 5), .inr (2, [.int 6, .ref (u 6), .ref (u 7)])), ((u 6), .inl (cA 0, 24, .inl (fun j => if j < 24 then (-1) else 0))), ((u 7), .inl (cA 0, 96, .inl (fun _ => 0))), ((u 8), .inr (3, [.int 0, .ref (u 2), .ref (u 5), .ref (u 9), .ref (u 10), .ref (u 11), .ref (u 12), .int 0])), ((u 9), .inl (cA 1, 60, .inl (fun _ => 0))), ((u 10), .inl (cA 0, 60, .inl (fun _ => 0))), ((u 11), .inl (cA 0, 60, .inl (fun _ => 0))), ((u 12), .inl (cA 0, 60, .inl (fun _ => 0))), ((u 13), .inr (3, [.int 0, .ref (u 2), .ref (u 5), .ref (u 14), .ref (u 15), .ref (u 16), .ref (u 17), .int 0])), ((u 14), .inl (cA 1, 60, .inl (fun _ => 0))), ((u 15), .inl (cA 0, 60, .inl (fun _ => 0))), ((u 16), .inl (cA 0, 60, .inl (fun _ => 0))), ((u 17), .inl (cA 0, 60, .inl (fun _ => 0))), ((u 18), .inr (4, [.int 0, .int 0, .ref (u 0), .int 0, .ref (u 19), .ref (u 20), .ref (u 21), .int 0])), ((u 19), .inl (cA 0, 6, .inl (fun _ => 0))), ((u 20), .inl (cA 0, 36, .inl (fun j => if j < 36 then (-1) else 0))), ((u 21), .inl (cA 2, 3, .inr (.inr (.inr (.inr (fun j => [some (u 22), some (u 23), some (u 24)].getD j none)))))), ((u 22), .inr (5, [.int (-1), .int (-1), .int 0, .int 0])), ((u 23), .inr (5, [.int (-1), .int (-1), .int 0, .int 0])), ((u 24), .inr (5, [.int (-1), .int (-1), .int 0, .int 0])), ((u 25), .inr (4, [.int 0, .int 0, .ref (u 0), .int 1, .ref (u 26), .ref (u 27), .ref (u 28), .int 0])), ((u 26), .inl (cA 0, 6, .inl (fun _ => 0))), ((u 27), .inl (cA 0, 36, .inl (fun j => if j < 36 then (-1) else 0))), ((u 28), .inl (cA 2, 3, .inr (.inr (.inr (.inr (fun j => [some (u 29), some (u 30), some (u 31)].getD j none)))))), ((u 29), .inr (5, [.int (-1), .int (-1), .int 0, .int 0])), ((u 30), .inr (5, [.int (-1), .int (-1), .int 0, .int 0])), ((u 31), .inr (5, [.int (-1), .int (-1), .int 0, .int 0]))] := hD
  refine W.widen (k := 33) (n := 821) (by decide) (by decide) ?_
  refine lv_astore_n (i := 1) hx hb kw_d_7 rfl hl (by decide) rfl (fun ls hl => ?_)
  have hl : lv_has ls 4 [(1, .ref q0), (0, .ref b)] := hl
  refine va_new (ci := 6) (fs := [.int 0, .int 0, .int 0, .null, .null, .null, .null, .null, .null, .null, .null, .null, .null, .null]) (C := R_Model) (T := F_Model) (N := 14) hx hb hw u_Model t_Model kt_Model hown (hw (.classLink R_law 10 R_Model) (kb_all_in (List.mem_of_getElem? (i := 515) rfl) rfl)) (hw (.instantiable R_Model 14) (kb_all_in (List.mem_of_getElem? (i := 516) rfl) rfl)) (hw (.initialized R_Model) (kb_all_in (List.mem_of_getElem? (i := 45) rfl) rfl)) hK hP hD hS hA rfl (fun j hj => by match j, hj with | 0, _ => rfl | 1, _ => rfl | 2, _ => rfl | 3, _ => rfl | 4, _ => rfl | 5, _ => rfl | 6, _ => rfl | 7, _ => rfl | 8, _ => rfl | 9, _ => rfl | 10, _ => rfl | 11, _ => rfl | 12, _ => rfl | 13, _ => rfl) (Nat.le_of_ble_eq_true rfl) (Nat.le_of_ble_eq_true rfl) kw_d_8 (fun q8 H hP hD hS => ?_)
  refine W.widen (k := 34) (n := 835) (by decide) (by decide) ?_
  refine lv_dup hx hb kw_d_11 rfl ?_
  refine kn_back (wr := [(q0, .inr (0, [.ref (u 0), .ref (u 1)])), ((u 0), .inr (1, [.int 0, .ref (u 2), .ref (u 5), .ref (u 8), .ref (u 13)])), ((u 1), .inl (cA 3, 2, .inr (.inr (.inr (.inr (fun j => [some (u 18), some (u 25)].getD j none)))))), ((u 2), .inr (2, [.int 3, .ref (u 3), .ref (u 4)])), ((u 3), .inl (cA 0, 12, .inl (fun j => if j < 12 then (-1) else 0))), ((u 4), .inl (cA 0, 48, .inl (fun _ => 0))), ((u 5), .inr (2, [.int 6, .ref (u 6), .ref (u 7)])), ((u 6), .inl (cA 0, 24, .inl (fun j => if j < 24 then (-1) else 0))), ((u 7), .inl (cA 0, 96, .inl (fun _ => 0))), ((u 8), .inr (3, [.int 0, .ref (u 2), .ref (u 5), .ref (u 9), .ref (u 10), .ref (u 11), .ref (u 12), .int 0])), ((u 9), .inl (cA 1, 60, .inl (fun _ => 0))), ((u 10), .inl (cA 0, 60, .inl (fun _ => 0))), ((u 11), .inl (cA 0, 60, .inl (fun _ => 0))), ((u 12), .inl (cA 0, 60, .inl (fun _ => 0))), ((u 13), .inr (3, [.int 0, .ref (u 2), .ref (u 5), .ref (u 14), .ref (u 15), .ref (u 16), .ref (u 17), .int 0])), ((u 14), .inl (cA 1, 60, .inl (fun _ => 0))), ((u 15), .inl (cA 0, 60, .inl (fun _ => 0))), ((u 16), .inl (cA 0, 60, .inl (fun _ => 0))), ((u 17), .inl (cA 0, 60, .inl (fun _ => 0))), ((u 18), .inr (4, [.int 0, .int 0, .ref (u 0), .int 0, .ref (u 19), .ref (u 20), .ref (u 21), .int 0])), ((u 19), .inl (cA 0, 6, .inl (fun _ => 0))), ((u 20), .inl (cA 0, 36, .inl (fun j => if j < 36 then (-1) else 0))), ((u 21), .inl (cA 2, 3, .inr (.inr (.inr (.inr (fun j => [some (u 22), some (u 23), some (u 24)].getD j none)))))), ((u 22), .inr (5, [.int (-1), .int (-1), .int 0, .int 0])), ((u 23), .inr (5, [.int (-1), .int (-1), .int 0, .int 0])), ((u 24), .inr (5, [.int (-1), .int (-1), .int 0, .int 0])), ((u 25), .inr (4, [.int 0, .int 0, .ref (u 0), .int 1, .ref (u 26), .ref (u 27), .ref (u 28), .int 0])), ((u 26), .inl (cA 0, 6, .inl (fun _ => 0))), ((u 27), .inl (cA 0, 36, .inl (fun j => if j < 36 then (-1) else 0))), ((u 28), .inl (cA 2, 3, .inr (.inr (.inr (.inr (fun j => [some (u 29), some (u 30), some (u 31)].getD j none)))))), ((u 29), .inr (5, [.int (-1), .int (-1), .int 0, .int 0])), ((u 30), .inr (5, [.int (-1), .int (-1), .int 0, .int 0])), ((u 31), .inr (5, [.int (-1), .int (-1), .int 0, .int 0]))]) (va_runI (As := []) (rest := [.ref q8]) ⟨hx, hb, hml, hown, hw⟩ (kn_Model l D cA q8 H.size) (cwI 0 hw (kn_goodA (kb_all_in (List.mem_of_getElem? (i := 519) rfl) rfl)) rfl rfl rfl (hw (.initialized R_Model) (kb_all_in (List.mem_of_getElem? (i := 45) rfl) rfl)) (hw (.methodLink R_law 12 yn_Model) (kb_all_in (List.mem_of_getElem? (i := 517) rfl) rfl)) (hw (.instanceMethod yn_Model) (kb_all_in (List.mem_of_getElem? (i := 518) rfl) rfl)) rfl (by decide +kernel) ⟨(Nat.le_of_ble_eq_true rfl), (Nat.le_of_ble_eq_true rfl)⟩) (kn_preS kn_ex0 trivial hP hD hK [.ref q8] [33] rfl (by decide)) rfl rfl hl.1 rfl (lv_room (Nat.le_of_ble_eq_true rfl)) kw_d_12 ⟨(Nat.le_of_ble_eq_true rfl), (Nat.le_of_ble_eq_true rfl)⟩) hP hD hS hA [33] [0, 1, 2, 3, 4, 5, 6, 7, 8, 9, 10, 11, 12, 13, 14, 15, 16, 17, 18, 19, 20, 21, 22, 23, 24, 25, 26, 27, 28, 29, 30, 31, 32] rfl rfl (by decide) (by decide) (fun v H locs hP hD hS => ?_)
  have hP : va_P D kb_cl (kst_L cA q0 q8 u v) H := hP
  have hD : va_D (fun q => s.heap.size ≤ q) (kst_L cA q0 q8 u v) := hD
  rw [← kst_w] at hP hD
  refine W.widen (k := 45) (n := 1993) (by decide) (by decide) ?_
  refine lv_astore_n (i := 2) hx hb kw_d_15 rfl hl (by decide) rfl (fun ls hl => ?_)
  have hl : lv_has ls 4 [(2, .ref q8), (1, .ref q0), (0, .ref b)] := hl
  refine lv_iconst (v := 0) hx hb kw_d_16 (by decide) ?_
  refine lv_istore_n (i := 3) hx hb kw_d_17 rfl hl (by decide) rfl (fun ls hl => ?_)
  have hl : lv_has ls 4 [(3, .int 0), (2, .ref q8), (1, .ref q0), (0, .ref b)] := hl
  have hl : lv_has ls 4 (kw_lo (kst_ad q0 q8 u v) b 0) := lv_sub hl [3, 2, 1, 0] rfl
  generalize kst_ad q0 q8 u v = ad at hP hD hl
  have hinj : kb_inj ad := fun i j hi hj hij => hD.1 i j _ _ (kb_w_at hi) (kb_w_at hj) hij
  have hAad : ∀ q, kb_A ad q → s.heap.size ≤ q := fun q hq => by
    obtain ⟨k, hk, rfl⟩ := hq
    exact hD.2 k _ (kb_w_at hk)
  exact kw_loop ⟨⟨hx, hb, hml, hown, hw⟩, hK, hinj, hX, hbl, hAad, hL⟩ hr hlocks L 0 0 kst_M rfl (by omega) (by omega) kst_V ls H locs hl hP hS
