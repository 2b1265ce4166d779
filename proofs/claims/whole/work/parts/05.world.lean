/-! the flat memory as a world, and each step of the small machine as a step of the machine -/
def kb_tv (ad : Nat → Nat) : kb_v → Value
  | .inl x => .int x
  | .inr r => va_rf (r.map ad)
theorem kb_tv_cat (ad : Nat → Nat) (v : kb_v) : (kb_tv ad v).category = 1 := by
  rcases v with x | r
  · rfl
  · cases r <;> rfl
theorem kb_cats (ad : Nat → Nat) (r : List kb_v) : ((r.map (kb_tv ad)).map fun v => v.category).sum = r.length := by
  induction r with
  | nil => rfl
  | cons a r ih => simp only [List.map_cons, List.sum_cons, kb_tv_cat, ih, List.length_cons]; omega
def kb_fv (ad : Nat → Nat) (row : Nat → Int32) : Nat → List (Option (Option Nat)) → List Value
  | _, [] => []
  | f, none :: l => .int (row f) :: kb_fv ad row (f + 1) l
  | f, some r :: l => va_rf (r.map ad) :: kb_fv ad row (f + 1) l
theorem kb_fv_n {ad : Nat → Nat} {row : Nat → Int32} : ∀ (l : List (Option (Option Nat))) (f k : Nat), l[k]? = some none → (kb_fv ad row f l)[k]? = some (.int (row (f + k))) := by
  intro l
  induction l with
  | nil => intro f k h; simp at h
  | cons o l ih =>
    intro f k h
    cases k with
    | zero =>
      have h : some o = some none := h
      cases h
      rfl
    | succ k =>
      have h : l[k]? = some none := h
      have e : f + (k + 1) = f + 1 + k := by omega
      rw [e]
      cases o with
      | none => exact ih (f + 1) k h
      | some r => exact ih (f + 1) k h
theorem kb_fv_s {ad : Nat → Nat} {row : Nat → Int32} {r : Option Nat} : ∀ (l : List (Option (Option Nat))) (f k : Nat), l[k]? = some (some r) → (kb_fv ad row f l)[k]? = some (va_rf (r.map ad)) := by
  intro l
  induction l with
  | nil => intro f k h; simp at h
  | cons o l ih =>
    intro f k h
    cases k with
    | zero =>
      have h : some o = some (some r) := h
      cases h
      rfl
    | succ k =>
      have h : l[k]? = some (some r) := h
      cases o with
      | none => exact ih (f + 1) k h
      | some r => exact ih (f + 1) k h
theorem kb_fv_len {ad : Nat → Nat} {row : Nat → Int32} : ∀ (l : List (Option (Option Nat))) (f : Nat), (kb_fv ad row f l).length = l.length := by
  intro l
  induction l with
  | nil => intro f; rfl
  | cons o l ih =>
    intro f
    cases o with
    | none => simp [kb_fv, ih]
    | some r => simp [kb_fv, ih]
theorem kb_fv_hi {ad : Nat → Nat} {row : Nat → Int32} {x : Int32} : ∀ (l : List (Option (Option Nat))) (f j : Nat), j < f → kb_fv ad (upd row j x) f l = kb_fv ad row f l := by
  intro l
  induction l with
  | nil => intro f j h; rfl
  | cons o l ih =>
    intro f j h
    have h1 : f ≠ j := by omega
    cases o with
    | none => simp only [kb_fv, ih (f + 1) j (by omega), pk_un h1]
    | some r => simp only [kb_fv, ih (f + 1) j (by omega)]
theorem kb_fv_set {ad : Nat → Nat} {row : Nat → Int32} {x : Int32} : ∀ (l : List (Option (Option Nat))) (f k : Nat), l[k]? = some none → (kb_fv ad row f l).set k (.int x) = kb_fv ad (upd row (f + k) x) f l := by
  intro l
  induction l with
  | nil => intro f k h; simp at h
  | cons o l ih =>
    intro f k h
    cases k with
    | zero =>
      have h : some o = some none := h
      cases h
      show Value.int x :: kb_fv ad row (f + 1) l = .int (upd row (f + 0) x f) :: kb_fv ad (upd row (f + 0) x) (f + 1) l
      rw [kb_fv_hi l (f + 1) (f + 0) (by omega), show upd row (f + 0) x f = x from pk_us]
    | succ k =>
      have h : l[k]? = some none := h
      have e : f + (k + 1) = f + 1 + k := by omega
      have h1 : f ≠ f + 1 + k := by omega
      rw [e]
      cases o with
      | none =>
        show Value.int (row f) :: (kb_fv ad row (f + 1) l).set k (.int x) = .int (upd row (f + 1 + k) x f) :: kb_fv ad (upd row (f + 1 + k) x) (f + 1) l
        rw [ih (f + 1) k h, pk_un h1]
      | some r =>
        show va_rf (r.map ad) :: (kb_fv ad row (f + 1) l).set k (.int x) = va_rf (r.map ad) :: kb_fv ad (upd row (f + 1 + k) x) (f + 1) l
        rw [ih (f + 1) k h]
def kb_ce (ad : Nat → Nat) (cA : Nat → ClassId) (k : Nat) (row : Nat → Int32) : va_E := match kb_cel k with
  | some (.inl (u, n, rs)) => cond (Nat.ble 2 u) (.inl (cA u, n, .inr (.inr (.inr (.inr (fun j => (rs.getD j none).map ad)))))) (.inl (cA u, n, .inl row))
  | some (.inr (ci, fs)) => .inr (ci, kb_fv ad row 0 fs)
  | none => .inr (0, [])
theorem kb_ce_a {ad : Nat → Nat} {cA : Nat → ClassId} {k u n : Nat} {rs : List (Option Nat)} {row : Nat → Int32} (h : kb_cel k = some (.inl (u, n, rs))) (hu : Nat.ble 2 u = false) : kb_ce ad cA k row = .inl (cA u, n, .inl row) := by
  unfold kb_ce
  rw [h]
  dsimp only
  rw [hu]
  rfl
theorem kb_ce_r {ad : Nat → Nat} {cA : Nat → ClassId} {k u n : Nat} {rs : List (Option Nat)} {row : Nat → Int32} (h : kb_cel k = some (.inl (u, n, rs))) (hu : Nat.ble 2 u = true) : kb_ce ad cA k row = .inl (cA u, n, .inr (.inr (.inr (.inr (fun j => (rs.getD j none).map ad))))) := by
  unfold kb_ce
  rw [h]
  dsimp only
  rw [hu]
  rfl
theorem kb_ce_o {ad : Nat → Nat} {cA : Nat → ClassId} {k ci : Nat} {fs : List (Option (Option Nat))} {row : Nat → Int32} (h : kb_cel k = some (.inr (ci, fs))) : kb_ce ad cA k row = .inr (ci, kb_fv ad row 0 fs) := by
  unfold kb_ce
  rw [h]
def kb_w (ad : Nat → Nat) (cA : Nat → ClassId) (M : kb_M) : va_W := (List.range kb_n).map (fun k => (ad k, kb_ce ad cA k (M k)))
theorem kb_w_at {ad : Nat → Nat} {cA : Nat → ClassId} {M : kb_M} {k : Nat} (h : k < kb_n) : (kb_w ad cA M)[k]? = some (ad k, kb_ce ad cA k (M k)) := by
  unfold kb_w
  rw [List.getElem?_map, List.getElem?_range h]
  rfl
theorem kb_w_none {ad : Nat → Nat} {cA : Nat → ClassId} {M : kb_M} {k : Nat} (h : ¬ k < kb_n) : (kb_w ad cA M)[k]? = none := by
  unfold kb_w
  rw [List.getElem?_eq_none (by simp; omega)]
theorem kb_w_set {ad : Nat → Nat} {cA : Nat → ClassId} {M : kb_M} {k : Nat} (r : Nat → Int32) : (kb_w ad cA M).set k (ad k, kb_ce ad cA k r) = kb_w ad cA (kb_ro M k r) := by
  apply List.ext_getElem?
  intro i
  by_cases hi : i < kb_n
  · by_cases hk : i = k
    · subst hk
      rw [List.getElem?_set_self (by simpa [kb_w] using hi), kb_w_at hi]
      simp [kb_ro]
    · rw [List.getElem?_set_ne (fun q => hk q.symm), kb_w_at hi, kb_w_at hi]
      simp [kb_ro, hk]
  · rw [kb_w_none hi, List.getElem?_eq_none (by rw [List.length_set]; simp [kb_w]; omega)]
def kb_A (ad : Nat → Nat) : Nat → Prop := fun q => ∃ k, k < kb_n ∧ q = ad k
def kb_inj (ad : Nat → Nat) : Prop := ∀ i j, i < kb_n → j < kb_n → ad i = ad j → i = j
theorem kb_wD {ad : Nat → Nat} {cA : Nat → ClassId} {M : kb_M} (hi : kb_inj ad) : va_D (kb_A ad) (kb_w ad cA M) := by
  have at' : ∀ (i : Nat) (q : Nat × va_E), (kb_w ad cA M)[i]? = some q → i < kb_n ∧ q.1 = ad i := by
    intro i q h
    by_cases hl : i < kb_n
    · rw [kb_w_at hl] at h
      cases h
      exact ⟨hl, rfl⟩
    · rw [kb_w_none hl] at h
      cases h
  refine ⟨fun i j a b ha hb hab => ?_, fun k q hk => ?_⟩
  · obtain ⟨h1, e1⟩ := at' i a ha
    obtain ⟨h2, e2⟩ := at' j b hb
    exact hi i j h1 h2 (by rw [← e1, ← e2]; exact hab)
  · obtain ⟨h1, e1⟩ := at' k q hk
    exact ⟨k, h1, e1⟩
/-- the locals -/
def kb_lh (ad : Nat → Nat) (ls : Array Slot) (n : Nat) (lv : List (Option kb_v)) : Prop := ls.size = n ∧ lv.length = n ∧ lv_wf ls ∧ ∀ (i : Nat) (v : kb_v), lv[i]? = some (some v) → ls[i]? = some (.val (kb_tv ad v))
def kb_ll (ad : Nat → Nat) (lv : List (Option kb_v)) (i : Nat) : Option (Nat × Value) := match lv[i]? with
  | some (some v) => some (i, kb_tv ad v)
  | _ => none
def kb_ls (ad : Nat → Nat) (n : Nat) (lv : List (Option kb_v)) : List (Nat × Value) := (List.range n).filterMap (kb_ll ad lv)
theorem kb_ls_mem {ad : Nat → Nat} {n : Nat} {lv : List (Option kb_v)} {q : Nat × Value} (h : q ∈ kb_ls ad n lv) : ∃ v, lv[q.1]? = some (some v) ∧ q.2 = kb_tv ad v := by
  obtain ⟨i, -, hi⟩ := List.mem_filterMap.mp h
  unfold kb_ll at hi
  split at hi
  next v hv => cases hi; exact ⟨v, hv, rfl⟩
  next => cases hi
theorem kb_ls_in {ad : Nat → Nat} {n : Nat} {lv : List (Option kb_v)} {i : Nat} {v : kb_v} (hi : i < n) (h : lv[i]? = some (some v)) : (i, kb_tv ad v) ∈ kb_ls ad n lv :=
  List.mem_filterMap.mpr ⟨i, List.mem_range.mpr hi, by unfold kb_ll; rw [h]⟩
theorem kb_lh_has {ad : Nat → Nat} {ls : Array Slot} {n : Nat} {lv : List (Option kb_v)} (h : kb_lh ad ls n lv) : lv_has ls n (kb_ls ad n lv) := by
  refine ⟨h.1, h.2.2.1, fun q hq => ?_⟩
  obtain ⟨v, h1, h2⟩ := kb_ls_mem hq
  rw [h2]
  exact h.2.2.2 q.1 v h1
theorem kb_lh_set {ad : Nat → Nat} {ls ls1 : Array Slot} {n k : Nat} {lv : List (Option kb_v)} {v : kb_v} (h : kb_lh ad ls n lv) (h1 : lv_has ls1 n ((k, kb_tv ad v) :: (kb_ls ad n lv).filter (fun q => !(q.1 == k) && !(q.1 + 1 == k && q.2.category == 2)))) : kb_lh ad ls1 n (lv.set k (some v)) := by
  refine ⟨h1.1, by rw [List.length_set]; exact h.2.1, h1.2.1, fun i w hw => ?_⟩
  by_cases hk : i = k
  · subst hk
    have hl : i < lv.length := by
      have := (List.getElem?_eq_some_iff.mp hw).1
      rwa [List.length_set] at this
    rw [List.getElem?_set_self hl] at hw
    cases hw
    exact h1.2.2 (i, kb_tv ad v) List.mem_cons_self
  · rw [List.getElem?_set_ne (fun q => hk q.symm)] at hw
    have hl : i < n := by
      rw [← h.2.1]
      exact (List.getElem?_eq_some_iff.mp hw).1
    refine h1.2.2 (i, kb_tv ad w) (List.mem_cons_of_mem _ (List.mem_filter.mpr ⟨kb_ls_in hl hw, ?_⟩))
    simp [hk, kb_tv_cat]
/-- what stays over a method's walk: tables and frame, then the world's -/
abbrev kb_X : Type := Program × Launch × Env × State × MethodId × Array Value × List Frame × Method × Code × va_G × (Nat → Nat) × (Nat → ClassId) × (kb_R → Prop)
abbrev kx_p (x : kb_X) : Program := x.1
abbrev kx_l (x : kb_X) : Launch := x.2.1
abbrev kx_e (x : kb_X) : Env := x.2.2.1
abbrev kx_s (x : kb_X) : State := x.2.2.2.1
abbrev kx_m (x : kb_X) : MethodId := x.2.2.2.2.1
abbrev kx_a (x : kb_X) : Array Value := x.2.2.2.2.2.1
abbrev kx_b (x : kb_X) : List Frame := x.2.2.2.2.2.2.1
abbrev kx_t (x : kb_X) : Method := x.2.2.2.2.2.2.2.1
abbrev kx_c (x : kb_X) : Code := x.2.2.2.2.2.2.2.2.1
abbrev kx_D (x : kb_X) : va_G := x.2.2.2.2.2.2.2.2.2.1
abbrev kx_ad (x : kb_X) : Nat → Nat := x.2.2.2.2.2.2.2.2.2.2.1
abbrev kx_cA (x : kb_X) : Nat → ClassId := x.2.2.2.2.2.2.2.2.2.2.2.1
abbrev kx_po (x : kb_X) : kb_R → Prop := x.2.2.2.2.2.2.2.2.2.2.2.2
def kb_Q (D : va_G) (ad : Nat → Nat) (cA : Nat → ClassId) (po : kb_R → Prop) : Array Value → State → Outcome → State → Prop := fun _ st oc t => (∃ r : kb_R, oc = .returned (r.1.map (kb_tv ad)) ∧ po r ∧ va_P D kb_cl (kb_w ad cA r.2) t.heap ∧ va_K D kb_cl (kb_ty cA) t) ∧ va_F (kb_A ad) st t
def kb_Pc (D : va_G) (ad : Nat → Nat) (cA : Nat → ClassId) (a : List kb_v) (M : kb_M) : Array Value → State → Prop := va_Pc (a.map (kb_tv ad)) (fun U => va_P D kb_cl (kb_w ad cA M) U.heap ∧ va_K D kb_cl (kb_ty cA) U)
def kb_wo (y : Nat) : List Cond := .code (kb_nm y) (kb_by y) (kb_mL y) (kb_rt y) :: kb_all
def kb_rm (y : Nat) : Room := { frames := kb_fr y, cells := 0, slots := 0, locals := kb_lo y }
def kb_V (x : kb_X) (σ : kb_S) : Prop := ∀ (ls : Array Slot) (H : Heap) (locs : List Loc), kb_lh (kx_ad x) ls (kb_mL σ.1) σ.2.2.1 → va_P (kx_D x) kb_cl (kb_w (kx_ad x) (kx_cA x) σ.2.2.2.2) H → va_S (kb_A (kx_ad x)) (kx_s x).heap H locs →
  W (kx_p x) (kx_l x) (kx_e x) (kb_rm σ.1) (kx_s x) (kx_m x) (kx_a x) (kx_b x) (kx_t x) (kx_c x) H locs 0 0 (MQ (kx_b x) (kb_Q (kx_D x) (kx_ad x) (kx_cA x) (kx_po x)) (kx_a x) (kx_s x) 0 0 (kb_A (kx_ad x))) (F0 (kx_m x) σ.2.1 ls (σ.2.2.2.1.map (kb_tv (kx_ad x))))
def kb_C (x : kb_X) (y : Nat) : Prop := (kx_p x).tables.exec = Jvm.exec ∧ (kx_c x).code = kb_by y ∧ (kx_c x).maxLocals = kb_mL y ∧ (kx_s x).vm.findClass (kb_nm y).cls = some (kx_m x).cls ∧ (∀ w ∈ kb_wo y, w.before (kx_a x) (kx_s x) = true) ∧
  va_K (kx_D x) kb_cl (kb_ty (kx_cA x)) (kx_s x) ∧ (kx_t x).sig.returnType = kb_rt y ∧ (kx_t x).locks = false ∧ kb_inj (kx_ad x)
theorem kb_all_good {y : Nat} {w : Cond} (h : w ∈ kb_all) : w ∈ kb_wo y ∧ ((w.onTables && w.keeps) = true ∨ ∃ ty, w = .arrayClass ty) := ⟨List.mem_cons_of_mem _ h, good_of_word (List.mem_filter.mp h).2⟩
theorem kb_wo_good {y z : Nat} (h : Cond.code (kb_nm z) (kb_by z) (kb_mL z) (kb_rt z) ∈ kb_all) : GoodIn (kb_wo y) (kb_wo z) := by
  intro w hw
  rcases List.mem_cons.mp hw with rfl | hw
  · exact kb_all_good h
  · exact kb_all_good hw
/-- a word of the tables, at a method's entry -/
theorem kb_hw {x : kb_X} {y : Nat} (C : kb_C x y) {w : Cond} (h : w ∈ kb_all) : w.before (kx_a x) (kx_s x) = true := C.2.2.2.2.1 w (List.mem_cons_of_mem _ h)
theorem kb_fix {x : kb_X} {y : Nat} (C : kb_C x y) : CallFix (kx_p x) (kx_m x) (kx_c x) (kb_by y) (kb_mL y) (kx_s x) (kx_a x) (kb_wo y) (kb_nm y).cls := ⟨C.1, C.2.1, C.2.2.1, C.2.2.2.1, C.2.2.2.2.1⟩
/-- a call, whatever it answers -/
theorem kb_callg {p : Program} {l : Launch} {e : Env} {R : Room} {s : State} {m : MethodId} {args : Array Value} {below : List Frame} {meth : Method} {c : Code} {H : Heap} {locs : List Loc} {cells slots : Nat} {Q : State → Prop} {pc : Nat} {ls : Array Slot} {rest st0 : List Value} {a : Array Value} {A0 : Nat → Prop} {H0 : Heap} {free : Addr → Prop}
    {D : va_G} {ad : Nat → Nat} {cA : Nat → ClassId} {po : kb_R → Prop} (hr : va_Run p l e R s m args below meth c H locs cells slots 0 0 (F0 m pc ls st0) rest (kb_Q D ad cA po a) free) (hS : va_S A0 H0 H locs) (hA : ∀ q, kb_A ad q → A0 q) (hf : ∀ q, free q → A0 q)
    (kk : ∀ (r : kb_R) (H1 : Heap) (locs1 : List Loc), po r → va_P D kb_cl (kb_w ad cA r.2) H1 → va_S A0 H0 H1 locs1 → W p l e R s m args below meth c H1 locs1 cells slots Q (F0 m (pc + 3) ls ((r.1.map (kb_tv ad)).toList ++ rest))) : W p l e R s m args below meth c H locs cells slots Q (F0 m pc ls st0) := by
  intro T hT X
  obtain ⟨v, st₀, t, T', L, h0, X', hL, e1, e2, ⟨⟨r, hv, hp, hw, -⟩, hz, hk⟩, st⟩ := hr T hT X
  cases hv
  rw [h0] at hz hk
  obtain ⟨t2, a1, b1⟩ := kk r T'.heap (locs ++ L) hp (by rw [e1]; exact hw)
    ⟨Nat.le_trans hS.1 (by rw [e1]; exact hz), fun q h1 h2 => by rw [e1, hk q (Nat.lt_of_lt_of_le h1 hS.1) (fun z => h2 (hA q z))]; exact hS.2.1 q h1 h2, fun q hq => by
      rcases List.mem_append.mp hq with h | h
      · exact hS.2.2 q h
      · exact hf _ (hL q h)⟩ T' rfl X'
  exact ⟨t2, st t2 a1, b1⟩
theorem kb_blind {D : va_G} {ad : Nat → Nat} {cA : Nat → ClassId} {a : List kb_v} {M : kb_M} : FrameBlind (kb_Pc D ad cA a M) := by
  intro v U g mk q
  obtain ⟨q0, qP, qK⟩ := q
  exact ⟨q0, qP, va_K.moved (u := U) (U := U.calling g mk v) (Vm.Alike.refl U.vm) qK⟩
