/-! Arrays.fill -/
abbrev bn_fill : ByteArray := prog_11_method_103_code
def yn_fill : MethodName := ⟨"java/util/Arrays", "fill", "([II)V"⟩
theorem dn_fill_0 : decode bn_fill 0 = .ok (.iconst 0, 1) := by decide +kernel
theorem dn_fill_1 : decode bn_fill 1 = .ok (.istore_n 2, 1) := by decide +kernel
theorem dn_fill_2 : decode bn_fill 2 = .ok (.aload_n 0, 1) := by decide +kernel
theorem dn_fill_3 : decode bn_fill 3 = .ok (.arraylength, 1) := by decide +kernel
theorem dn_fill_4 : decode bn_fill 4 = .ok (.istore_n 3, 1) := by decide +kernel
theorem dn_fill_5 : decode bn_fill 5 = .ok (.iload_n 2, 1) := by decide +kernel
theorem dn_fill_6 : decode bn_fill 6 = .ok (.iload_n 3, 1) := by decide +kernel
theorem dn_fill_7 : decode bn_fill 7 = .ok (.if_icmp .ge (13), 3) := by decide +kernel
theorem dn_fill_10 : decode bn_fill 10 = .ok (.aload_n 0, 1) := by decide +kernel
theorem dn_fill_11 : decode bn_fill 11 = .ok (.iload_n 2, 1) := by decide +kernel
theorem dn_fill_12 : decode bn_fill 12 = .ok (.iload_n 1, 1) := by decide +kernel
theorem dn_fill_13 : decode bn_fill 13 = .ok (.iastore, 1) := by decide +kernel
theorem dn_fill_14 : decode bn_fill 14 = .ok (.iinc 2 (1), 3) := by decide +kernel
theorem dn_fill_17 : decode bn_fill 17 = .ok (.goto (-12), 3) := by decide +kernel
theorem dn_fill_20 : decode bn_fill 20 = .ok (.return_, 1) := by decide +kernel
theorem kn_fup (n i : Nat) (x : Int32) (f : Nat → Int32) : upd (fun j => if j < i then x else f j) i x = fun j => if j < i + 1 then x else f j := by
  funext j
  unfold upd
  by_cases h : j = i
  · subst h
    rw [if_pos rfl, if_pos (by omega)]
  · rw [if_neg h]
    show (if j < i then x else f j) = _
    by_cases h2 : j < i
    · rw [if_pos h2, if_pos (by omega)]
    · rw [if_neg h2, if_neg (by omega)]
set_option maxHeartbeats 4000000 in
set_option maxRecDepth 100000 in
/-- the first n ints of an array become x -/
theorem kn_fill (l : Launch) (D : va_G) (cA : Nat → ClassId) (a n : Nat) (f : Nat → Int32) (x : Int32) (sz : Nat) (hn : n < 1000) : kn_M l yn_fill bn_fill 4 ({ frames := 0, cells := 0, slots := 0, locals := 0 }) D cA [.ref a, .int x] [(a, .inl (cA 0, n, .inl f))] (fun _ => True) (fun _ => [(a, .inl (cA 0, n, .inl (fun j => if j < n then x else f j)))]) sz 0 0 := by
  refine Met.ofW (cc := bn_fill) (maxL := 4) (ret := none) (by decide) rfl ?_
  intro p e s m args below meth c s₁ B hml hv
  obtain ⟨rfl, hsz, hP, hK, hD0, -⟩ := hv
  have hx := B.exec
  have hb := B.bytes
  have hr := B.returns
  have hlocks := B.notSynchronized
  subst hsz
  have hD := hD0.self (sz := s.heap.size)
  generalize hAe : va_A [(a, .inl (cA 0, n, .inl f))] s.heap.size = A at hD ⊢
  have hS : va_S A s.heap s.heap [] := va_S.rf
  have hAa : A a := hD.2 0 _ rfl
  have hl := lv_entry ([.ref a, .int x]) (n := 4) (Nat.le_of_ble_eq_true rfl)
  rw [lg_entry_eq]
  generalize (lg_sl ([.ref a, .int x]) ++ List.replicate (4 - (lg_sl ([.ref a, .int x])).length) Slot.unset).toArray = ls at hl ⊢
  have hl : lv_has ls 4 [(0, .ref a), (1, .int x)] := hl
  have loop : ∀ (k i : Nat) (v : Int32) (ls : Array Slot) (H : Heap) (locs : List Loc), i + k = n → v = nI i → lv_has ls 4 [(3, .int (nI n)), (2, .int v), (0, .ref a), (1, .int x)] → va_P D kb_cl [(a, .inl (cA 0, n, .inl (fun j => if j < i then x else f j)))] H → va_S A s.heap H locs →
      W p l e (headSpec (kn_wo yn_fill bn_fill 4) { frames := 0, cells := 0, slots := 0, locals := 0 }).room s m #[Value.ref a, Value.int x] below meth c H locs 0 0 (MQ below (kn_Q D cA (fun _ => [(a, .inl (cA 0, n, .inl (fun j => if j < n then x else f j)))]) A) #[Value.ref a, Value.int x] s 0 0 A) (F0 m 5 ls []) := by
    intro k
    induction k with
    | zero =>
      intro i v ls H locs hi hv hl hP hS
      subst hv
      have hi : i = n := by omega
      subst hi
      refine lv_iload_n hx hb dn_fill_5 rfl (lv_at hl 1 rfl) ?_
      refine lv_iload_n hx hb dn_fill_6 rfl (lv_at hl 0 rfl) ?_
      refine lv_icmp_ge (tgt := 20) hx hb dn_fill_7 (by decide) (fun _ => ?_) (fun h => absurd (Int32.le_refl _) h)
      exact W.vret hx hb hr (fun t ht hW => ⟨⟨fun _ => 0, rfl, trivial, by rw [ht]; exact hP, va_K.moved hW.alike hK, ⟨fun i j p q hp hq _ => by
        have h1 := (List.getElem?_eq_some_iff.mp hp).1
        have h2 := (List.getElem?_eq_some_iff.mp hq).1
        simp only [List.length_cons, List.length_nil] at h1 h2
        omega, fun k q hk => by
        have h1 := (List.getElem?_eq_some_iff.mp hk).1
        simp only [List.length_cons, List.length_nil] at h1
        have e : k = 0 := by omega
        subst e
        cases hk
        exact hAa⟩⟩, hS.F ht⟩) hS.2.2 dn_fill_20
    | succ k ih =>
      intro i v ls H locs hi hv hl hP hS
      subst hv
      refine lv_iload_n hx hb dn_fill_5 rfl (lv_at hl 1 rfl) ?_
      refine lv_iload_n hx hb dn_fill_6 rfl (lv_at hl 0 rfl) ?_
      refine lv_icmp_ge (tgt := 20) hx hb dn_fill_7 (by decide) (fun h => ?_) (fun _ => ?_)
      · rw [nI_leI (by omega) (by omega)] at h
        omega
      have hD : va_D A [(a, .inl (cA 0, n, .inl (fun j => if j < i then x else f j)))] := ⟨fun i j p q hp hq _ => by
        have h1 := (List.getElem?_eq_some_iff.mp hp).1
        have h2 := (List.getElem?_eq_some_iff.mp hq).1
        simp only [List.length_cons, List.length_nil] at h1 h2
        omega, fun k q hk => by
        have h1 := (List.getElem?_eq_some_iff.mp hk).1
        simp only [List.length_cons, List.length_nil] at h1
        have e : k = 0 := by omega
        subst e
        cases hk
        exact hAa⟩
      refine lv_aload_n hx hb dn_fill_10 rfl (lv_at hl 2 rfl) ?_
      refine lv_iload_n hx hb dn_fill_11 rfl (lv_at hl 1 rfl) ?_
      refine lv_iload_n hx hb dn_fill_12 rfl (lv_at hl 3 rfl) ?_
      have hcl : (nI i).toNatClampNeg = i := nI_clamp (by omega)
      refine va_iast hx hb hK hP hD hS 0 0 rfl rfl (show vp_in (nI i) n from fun q => by
        rcases q with q | q
        · exact nI_pos (by omega) q
        · rw [hcl] at q
          omega) dn_fill_13 (fun H1 locs1 hP1 _ hS1 => ?_)
      have hP1 : va_P D kb_cl [(a, .inl (cA 0, n, .inl (upd (fun j => if j < i then x else f j) (nI i).toNatClampNeg x)))] H1 := hP1
      rw [hcl, kn_fup n] at hP1
      refine lv_iinc (k := 1) (v := nI (i + 1)) hx hb dn_fill_14 hl rfl (nI_succ i).symm (by decide) rfl (fun ls1 hl1 => ?_)
      have hl1 : lv_has ls1 4 [(2, .int (nI (i + 1))), (3, .int (nI n)), (0, .ref a), (1, .int x)] := hl1
      refine lv_goto (tgt := 5) hx hb dn_fill_17 (by decide) ?_
      exact ih (i + 1) _ ls1 H1 locs1 (by omega) rfl (lv_sub hl1 [1, 0, 2, 3] rfl) hP1 hS1
  refine lv_iconst (v := 0) hx hb dn_fill_0 (by decide) ?_
  refine lv_istore_n (i := 2) hx hb dn_fill_1 rfl hl (by decide) rfl (fun ls hl => ?_)
  have hl : lv_has ls 4 [(2, .int 0), (0, .ref a), (1, .int x)] := hl
  refine lv_aload_n hx hb dn_fill_2 rfl (lv_at hl 1 rfl) ?_
  refine va_alen (v := nI n) hx hb hK hP 0 0 rfl rfl rfl dn_fill_3 ?_
  refine lv_istore_n (i := 3) hx hb dn_fill_4 rfl hl (by decide) rfl (fun ls hl => ?_)
  have hl : lv_has ls 4 [(3, .int (nI n)), (2, .int 0), (0, .ref a), (1, .int x)] := hl
  exact loop n 0 0 ls s.heap [] (by omega) rfl hl hP hS
