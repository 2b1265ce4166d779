/-! constructors: what they share -/
theorem ku_RA {U : State} {c d : ClassId} {ty : FieldType} (h : va_RA U c ty) (k : va_RA U d ty) : c = d := by
  have nm : ∀ {x : ClassId}, va_RA U x ty → U.vm.findClass ("[" ++ ty.toString) = some x := by
    intro x hx
    cases ty with
    | object C => obtain ⟨_, _, _, _, _, h4⟩ := hx; exact h4
    | _ => exact hx
  exact Option.some.inj ((nm h).symm.trans (nm k))
theorem kn_getD (ad : Nat → Nat) (l : List (Option Nat)) : (fun j => (l.getD j none).map ad) = (fun j => (l.map (Option.map ad)).getD j none) := by
  funext j
  simp only [List.getD_eq_getElem?_getD, List.getElem?_map]
  cases l[j]? with
  | none => rfl
  | some x => rfl
theorem kt_BK : ∀ k, k < 2 → parseFieldDescriptor (F_BK k).2.2.1 = some (t_BK k) := by decide +kernel
theorem kt_Kernel : ∀ k, k < 5 → parseFieldDescriptor (F_Kernel k).2.2.1 = some (t_Kernel k) := by decide +kernel
theorem kt_Pool : ∀ k, k < 3 → parseFieldDescriptor (F_Pool k).2.2.1 = some (t_Pool k) := by decide +kernel
theorem kt_Guest : ∀ k, k < 8 → parseFieldDescriptor (F_Guest k).2.2.1 = some (t_Guest k) := by decide +kernel
theorem kt_App : ∀ k, k < 8 → parseFieldDescriptor (F_App k).2.2.1 = some (t_App k) := by decide +kernel
theorem kt_Slot : ∀ k, k < 4 → parseFieldDescriptor (F_Slot k).2.2.1 = some (t_Slot k) := by decide +kernel
theorem kt_Model : ∀ k, k < 14 → parseFieldDescriptor (F_Model k).2.2.1 = some (t_Model k) := by decide +kernel
theorem kf_BK : ∀ a, a < 2 → ∀ b, b < 2 → a ≠ b → (F_BK a).2.1 ≠ (F_BK b).2.1 := by decide +kernel
theorem kf_Kernel : ∀ a, a < 5 → ∀ b, b < 5 → a ≠ b → (F_Kernel a).2.1 ≠ (F_Kernel b).2.1 := by decide +kernel
theorem kf_Pool : ∀ a, a < 3 → ∀ b, b < 3 → a ≠ b → (F_Pool a).2.1 ≠ (F_Pool b).2.1 := by decide +kernel
theorem kf_Guest : ∀ a, a < 8 → ∀ b, b < 8 → a ≠ b → (F_Guest a).2.1 ≠ (F_Guest b).2.1 := by decide +kernel
theorem kf_App : ∀ a, a < 8 → ∀ b, b < 8 → a ≠ b → (F_App a).2.1 ≠ (F_App b).2.1 := by decide +kernel
theorem kf_Slot : ∀ a, a < 4 → ∀ b, b < 4 → a ≠ b → (F_Slot a).2.1 ≠ (F_Slot b).2.1 := by decide +kernel
theorem kf_Model : ∀ a, a < 14 → ∀ b, b < 14 → a ≠ b → (F_Model a).2.1 ≠ (F_Model b).2.1 := by decide +kernel
/-- the words of a constructor -/
def kn_wo (y : MethodName) (b : ByteArray) (n : Nat) : List Cond := .code y b n none :: kb_all
theorem kn_good {y z : MethodName} {b d : ByteArray} {n k : Nat} (h : Cond.code z d k none ∈ kb_all) : GoodIn (kn_wo y b n) (kn_wo z d k) := by
  intro w hw
  rcases List.mem_cons.mp hw with rfl | hw
  · exact ⟨List.mem_cons_of_mem _ h, good_of_word (List.mem_filter.mp h).2⟩
  · exact ⟨List.mem_cons_of_mem _ hw, good_of_word (List.mem_filter.mp hw).2⟩
/-- what stands before a constructor: its cells wc, the classes, and a few words ex -/
def kn_pre (D : va_G) (cA : Nat → ClassId) (wc : va_W) (ex : State → Prop) (sz : Nat) : State → Prop := fun U => U.heap.size = sz ∧ va_P D kb_cl wc U.heap ∧ va_K D kb_cl (kb_ty cA) U ∧ va_D (fun _ => True) wc ∧ ex U
/-- and behind it -/
def kn_Q (D : va_G) (cA : Nat → ClassId) (w1 : (Nat → Nat) → va_W) (A : Nat → Prop) : Array Value → State → Outcome → State → Prop := va_Qv (fun _ : Nat → Nat => True) (fun u t => va_P D kb_cl (w1 u) t.heap ∧ va_K D kb_cl (kb_ty cA) t ∧ va_D A (w1 u)) A
abbrev kn_M (l : Launch) (y : MethodName) (b : ByteArray) (n : Nat) (rm : Room) (D : va_G) (cA : Nat → ClassId) (av : List Value) (wc : va_W) (ex : State → Prop) (w1 : (Nat → Nat) → va_W) (sz mc ms : Nat) : Prop := Met l y (kn_wo y b n) rm (va_Pc av (kn_pre D cA wc ex sz)) (kn_Q D cA w1 (va_A wc sz)) mc ms (va_A wc sz)
theorem kn_Psub {D : va_G} {cl : List vw_C} {ws wc : va_W} {H : Heap} (h : va_P D cl ws H) (is : List Nat) (hC : is.map (fun i => ws[i]?) = wc.map some) : va_P D cl wc H := by
  intro k q hk
  have h1 : (is.map (fun i => ws[i]?))[k]? = some (some q) := by rw [hC, List.getElem?_map, hk]; rfl
  rw [List.getElem?_map] at h1
  cases hi : is[k]? with
  | none => rw [hi] at h1; cases h1
  | some i => rw [hi] at h1; exact h i q (Option.some.inj h1)
/-- words that no call takes away -/
def kn_ex (ex : State → Prop) : Prop := (∀ (U : State) (g : JFrame) (mk : MethodId) (a : Array Value), ex U → ex (U.calling g mk a)) ∧ ∀ s U : State, s.WarmedH U.vm → ex s → ex U
theorem kn_ex0 : kn_ex (fun _ => True) := ⟨fun _ _ _ _ _ => trivial, fun _ _ _ _ => trivial⟩
theorem kn_preS {D : va_G} {cA : Nat → ClassId} {ws wc : va_W} {ex : State → Prop} {A : Nat → Prop} {s : State} {H : Heap} (he : kn_ex ex) (hs : ex s) (hP : va_P D kb_cl ws H) (hD : va_D A ws) (hK : va_K D kb_cl (kb_ty cA) s) (av : List Value) (isC : List Nat) (hC : isC.map (fun i => ws[i]?) = wc.map some) (hn : va_nd isC = true) : PreS s H (va_Pc av (kn_pre D cA wc ex H.size)) av := by
  refine ⟨fun a U g mk q => ?_, fun U hU hW => ⟨rfl, by rw [hU], by rw [hU]; exact kn_Psub hP isC hC, va_K.moved hW.alike hK, (hD.sub isC hn hC).weaken (fun _ _ _ _ => trivial), he.2 s U hW hs⟩⟩
  obtain ⟨q0, q1, qP, qK, qD, qE⟩ := q
  exact ⟨q0, q1, qP, va_K.moved (u := U) (U := U.calling g mk a) (Vm.Alike.refl U.vm) qK, qD, he.1 U g mk a qE⟩
section KN
variable {p : Program} {l : Launch} {e : Env} {R : Room} {s : State} {m : MethodId} {args : Array Value} {below : List Frame} {meth : Method} {c : Code} {H H0 : Heap} {locs : List Loc} {cells slots mc ms : Nat} {Q : State → Prop} {pc : Nat} {ls : Array Slot} {rest st0 : List Value} {a : Array Value} {A : Nat → Prop} {D : va_G} {cA : Nat → ClassId} {ws wc wr : va_W} {w1 : (Nat → Nat) → va_W}
/-- behind a call of a constructor -/
theorem kn_back (hr : va_Run p l e R s m args below meth c H locs cells slots mc ms (F0 m pc ls st0) rest (kn_Q D cA w1 (va_A wc H.size) a) (va_A wc H.size)) (hP : va_P D kb_cl ws H) (hD : va_D A ws) (hS : va_S A H0 H locs) (hA : ∀ q, H0.size ≤ q → A q) (isC isR : List Nat) (hC : isC.map (fun i => ws[i]?) = wc.map some) (hR : isR.map (fun i => ws[i]?) = wr.map some) (hn : va_nd isR = true) (hdis : ∀ i ∈ isR, i ∉ isC)
    (kk : ∀ (u : Nat → Nat) (H1 : Heap) (locs1 : List Loc), va_P D kb_cl (wr ++ w1 u) H1 → va_D A (wr ++ w1 u) → va_S A H0 H1 locs1 → W p l e R s m args below meth c H1 locs1 (cells + mc) (slots + ms) Q (F0 m (pc + 3) ls rest)) : W p l e R s m args below meth c H locs cells slots Q (F0 m pc ls st0) := by
  have hFc := va_free hD hS hA isC hC
  refine va_callv hr hS (fun q _ h => hFc q h) hFc (fun u t H1 locs1 ht hvm _ hB hz1 hk1 hS1 => ?_)
  obtain ⟨hP1, -, hD1⟩ := hB
  rw [ht] at hP1
  obtain ⟨hP2, hD2⟩ := va_join (wc := wc) hP hD isC isR hC hR hn hdis hk1 hFc hP1 hD1
  exact kk u H1 locs1 hP2 hD2 hS1
/-- a new array of ints or booleans: its class is the one that is known -/
theorem kn_newa (hexec : p.tables.exec = Jvm.exec) {cc : ByteArray} (hb : c.code = cc) {atype : ArrayType} (harr : (Cond.arrayClass (newarray.typeOf atype)).before args s = true) {ty : FieldType} (hty : newarray.typeOf atype = ty) (hK : va_K D kb_cl (kb_ty cA) s) (hP : va_P D kb_cl ws H) (hD : va_D A ws) (hS : va_S A H0 H locs) (hA : ∀ q, H0.size ≤ q → A q)
    {n : Int32} {N' : Nat} {f : Nat → Int32} (t0 : Nat) (ht : (kb_ty cA)[t0]? = some (cA t0, ty)) (ha : ∀ cA : ClassId, vp_cell cA (N', .inl f) = arrV cA N' (fun _ => defaultValue ty)) (hn : ¬ n < 0) (hN : n.toNatClampNeg = N') (hbytes : N' * componentBytes ty ≤ 536870912) (hcells : cells + 1 ≤ R.cells) (hslots : slots + N' ≤ R.slots) (hdg : decode cc pc = .ok (.newarray atype, 2))
    (kk : ∀ (q : Nat) (H1 : Heap), va_P D kb_cl (ws ++ [(q, .inl (cA t0, N', .inl f))]) H1 → va_D A (ws ++ [(q, .inl (cA t0, N', .inl f))]) → va_S A H0 H1 locs →
      W p l e R s m args below meth c H1 locs (cells + 1) (slots + N') Q (F0 m (pc + 2) ls (.ref q :: rest))) : W p l e R s m args below meth c H locs cells slots Q (F0 m pc ls (.int n :: rest)) := by
  refine va_newa hexec hb harr hty hK hP hD hS hA ha hn hN hbytes hcells hslots hdg (fun q cX H1 hK1 hP1 hD1 hS1 => ?_)
  have e : cX = cA t0 := ku_RA (hK1.2 4 (cX, ty) rfl).2 (hK.2 t0 _ ht).2
  subst e
  exact kk q H1 hP1 hD1 hS1
/-- a new array of references -/
theorem kn_newq (hexec : p.tables.exec = Jvm.exec) {cc : ByteArray} (hb : c.code = cc) {own C : String} {index : Nat} (hown : s.vm.findClass own = some m.cls) (hclink : (Cond.classLink own index C).before args s = true) (hover : va_AO C s) (hK : va_K D kb_cl (kb_ty cA) s) (hP : va_P D kb_cl ws H) (hD : va_D A ws) (hS : va_S A H0 H locs) (hA : ∀ q, H0.size ≤ q → A q)
    {n : Int32} {N' : Nat} (t0 : Nat) (ht : (kb_ty cA)[t0]? = some (cA t0, .object C)) (hn : ¬ n < 0) (hN : n.toNatClampNeg = N') (hbytes : N' * 4 ≤ 536870912) (hcells : cells + 1 ≤ R.cells) (hslots : slots + N' ≤ R.slots) (hdg : decode cc pc = .ok (.anewarray index, 3))
    (kk : ∀ (q : Nat) (H1 : Heap), va_P D kb_cl (ws ++ [(q, .inl (cA t0, N', .inr (.inr (.inr (.inr (fun _ => none))))))]) H1 → va_D A (ws ++ [(q, .inl (cA t0, N', .inr (.inr (.inr (.inr (fun _ => none))))))]) → va_S A H0 H1 locs →
      W p l e R s m args below meth c H1 locs (cells + 1) (slots + N') Q (F0 m (pc + 3) ls (.ref q :: rest))) : W p l e R s m args below meth c H locs cells slots Q (F0 m pc ls (.int n :: rest)) := by
  refine va_newq hexec hb hown hclink hover hK hP hD hS hA hn hN hbytes hcells hslots hdg (fun q cX H1 hK1 hP1 hD1 hS1 => ?_)
  have e : cX = cA t0 := ku_RA (hK1.2 4 (cX, .object C) rfl).2 (hK.2 t0 _ ht).2
  subst e
  exact kk q H1 hP1 hD1 hS1
end KN
