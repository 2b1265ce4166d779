/-! each step of the small machine is a step of the machine -/
/-- what must be shown of a step's outcome -/
def kb_af (x : kb_X) (y : Nat) (o : kb_O) : Prop := match o with
  | .inl t => kb_V x (y, t)
  | .inr (.inl (b, r)) => b = true ∧ kx_po x r
  | .inr (.inr (.inl (z, a, t))) => plainName (kb_nm z).cls = true → a.length ≤ kb_mL z → ∃ r : kb_R, Met (kx_l x) (kb_nm z) (kb_wo z) (kb_rm z) (kb_Pc (kx_D x) (kx_ad x) (kx_cA x) a t.2.2.2) (kb_Q (kx_D x) (kx_ad x) (kx_cA x) (fun r1 => r1 = r)) 0 0 (kb_A (kx_ad x)) ∧ kb_V x (kb_pu (y, t) r)
  | .inr (.inr (.inr (.inl (b, t, t2)))) => (b = true → kb_V x (y, t)) ∧ (b = false → kb_V x (y, t2))
  | .inr (.inr (.inr (.inr (b, t)))) => b = true ∧ kb_V x (y, t)
section KS
variable {x : kb_X} {y pc : Nat} {lv : List (Option kb_v)} {st : List kb_v} {M : kb_M} {o : kb_O}
theorem kb_k1 {t : kb_T} (h : some (Sum.inl t) = some o) (K : kb_af x y o) : kb_V x (y, t) := by
  cases h
  exact K
theorem kb_k5 {b : Bool} {t : kb_T} (h : some (Sum.inr (Sum.inr (Sum.inr (Sum.inr (b, t))))) = some o) (K : kb_af x y o) : b = true ∧ kb_V x (y, t) := by
  cases h
  exact K
theorem kb_k4 {b : Bool} {t t2 : kb_T} (h : some (Sum.inr (Sum.inr (Sum.inr (Sum.inl (b, t, t2))))) = some o) (K : kb_af x y o) : (b = true → kb_V x (y, t)) ∧ (b = false → kb_V x (y, t2)) := by
  cases h
  exact K
theorem kb_k2 {b : Bool} {r : kb_R} (h : some (Sum.inr (Sum.inl (b, r))) = some o) (K : kb_af x y o) : b = true ∧ kx_po x r := by
  cases h
  exact K
theorem ks_li {k pc1 : Nat} (ho : kb_li k y pc1 lv st M = some o) (K : kb_af x y o) : ∃ v, lv[k]? = some (some (.inl v)) ∧ kb_V x (y, pc1, lv, .inl v :: st, M) := by
  unfold kb_li at ho
  split at ho
  next v hv => exact ⟨v, hv, kb_k1 ho K⟩
  next => cases ho
theorem ks_la {k pc1 : Nat} (ho : kb_la k y pc1 lv st M = some o) (K : kb_af x y o) : ∃ v, lv[k]? = some (some (.inr v)) ∧ kb_V x (y, pc1, lv, .inr v :: st, M) := by
  unfold kb_la at ho
  split at ho
  next v hv => exact ⟨v, hv, kb_k1 ho K⟩
  next => cases ho
theorem ks_si {k pc1 : Nat} (ho : kb_si k y pc1 lv st M = some o) (K : kb_af x y o) : ∃ v r, st = .inl v :: r ∧ k < lv.length ∧ kb_V x (y, pc1, lv.set k (some (.inl v)), r, M) := by
  unfold kb_si at ho
  split at ho
  next v r w hw => exact ⟨v, r, rfl, (List.getElem?_eq_some_iff.mp hw).1, kb_k1 ho K⟩
  next => cases ho
theorem ks_sa {k pc1 : Nat} (ho : kb_sa k y pc1 lv st M = some o) (K : kb_af x y o) : ∃ v r, st = .inr v :: r ∧ k < lv.length ∧ kb_V x (y, pc1, lv.set k (some (.inr v)), r, M) := by
  unfold kb_sa at ho
  split at ho
  next v r w hw => exact ⟨v, r, rfl, (List.getElem?_eq_some_iff.mp hw).1, kb_k1 ho K⟩
  next => cases ho
theorem ks_b1 {f : Int32 → Bool} {off : Int} (ho : kb_b1 f off y pc lv st M = some o) (K : kb_af x y o) : ∃ (a : Int32) (r : List kb_v) (t : Nat), st = .inl a :: r ∧ (pc : Int) + off = (t : Int) ∧ (f a = true → kb_V x (y, t, lv, r, M)) ∧ (f a = false → kb_V x (y, pc + 3, lv, r, M)) := by
  unfold kb_b1 at ho
  split at ho
  next a r =>
    split at ho
    next t ht => exact ⟨a, r, t, rfl, kb_tg_eq ht, kb_k4 ho K⟩
    next => cases ho
  next => cases ho
theorem ks_b2 {f : Int32 → Int32 → Bool} {off : Int} (ho : kb_b2 f off y pc lv st M = some o) (K : kb_af x y o) : ∃ (a b : Int32) (r : List kb_v) (t : Nat), st = .inl b :: .inl a :: r ∧ (pc : Int) + off = (t : Int) ∧ (f a b = true → kb_V x (y, t, lv, r, M)) ∧ (f a b = false → kb_V x (y, pc + 3, lv, r, M)) := by
  unfold kb_b2 at ho
  split at ho
  next b a r =>
    split at ho
    next t ht => exact ⟨a, b, r, t, rfl, kb_tg_eq ht, kb_k4 ho K⟩
    next => cases ho
  next => cases ho
theorem ks_a2 {f : Int32 → Int32 → Int32} (ho : kb_a2 f y pc lv st M = some o) (K : kb_af x y o) : ∃ a b r, st = .inl b :: .inl a :: r ∧ kb_V x (y, pc + 1, lv, .inl (f a b) :: r, M) := by
  unfold kb_a2 at ho
  split at ho
  next b a r => exact ⟨a, b, r, rfl, kb_k1 ho K⟩
  next => cases ho
theorem ks_d2 {f : Int32 → Int32 → Int32} (ho : kb_d2 f y pc lv st M = some o) (K : kb_af x y o) : ∃ a b r, st = .inl b :: .inl a :: r ∧ ¬ b = 0 ∧ kb_V x (y, pc + 1, lv, .inl (f a b) :: r, M) := by
  unfold kb_d2 at ho
  split at ho
  next b a r =>
    obtain ⟨h1, h2⟩ := kb_k5 ho K
    exact ⟨a, b, r, rfl, by simpa using h1, h2⟩
  next => cases ho
theorem ks_gt {off : Int} (ho : kb_gt off y pc lv st M = some o) (K : kb_af x y o) : ∃ t : Nat, (pc : Int) + off = (t : Int) ∧ kb_V x (y, t, lv, st, M) := by
  unfold kb_gt at ho
  split at ho
  next t ht => exact ⟨t, kb_tg_eq ht, kb_k1 ho K⟩
  next => cases ho
theorem kb_dI {c0 : kb_X} (hx : kb_C c0 y) : (kx_p c0).tables.exec = Jvm.exec := hx.1
theorem kv_iinc (C : kb_C x y) {k : Nat} {n : Int} (hi : kb_ft y pc = some (.iinc k n)) (ho : kb_ii k n y pc lv st M = some o) (K : kb_af x y o) : kb_V x (y, pc, lv, st, M) := by
  unfold kb_ii at ho
  split at ho
  next v hv =>
    have hk := kb_k1 ho K
    intro ls H locs hl hP hS
    have hlt : k < kb_mL y := by rw [← hl.2.1]; exact (List.getElem?_eq_some_iff.mp hv).1
    obtain ⟨j, hj⟩ := List.getElem?_of_mem (kb_ls_in (ad := kx_ad x) hlt hv)
    exact lv_iinc C.1 C.2.1 (kb_dec hi) (kb_lh_has hl) hj rfl hlt rfl (fun ls1 h1 => hk ls1 H locs (kb_lh_set (v := .inl (v + Int32.ofInt n)) hl h1) hP hS)
  next => cases ho
theorem kv_sti (C : kb_C x y) {k : Nat} {v : Int32} {r : List kb_v} (hi : kb_ft y pc = some (.istore k)) (hk : k < lv.length) (K : kb_V x (y, pc + 2, lv.set k (some (.inl v)), r, M)) : kb_V x (y, pc, lv, .inl v :: r, M) := by
  intro ls H locs hl hP hS
  exact lv_istore C.1 C.2.1 (kb_dec hi) (kb_lh_has hl) (by rw [← hl.2.1]; exact hk) rfl (fun ls1 h1 => K ls1 H locs (kb_lh_set (v := .inl v) hl h1) hP hS)
theorem kv_stin (C : kb_C x y) {k : Fin 4} {v : Int32} {r : List kb_v} (hi : kb_ft y pc = some (.istore_n k)) (hk : k.val < lv.length) (K : kb_V x (y, pc + 1, lv.set k.val (some (.inl v)), r, M)) : kb_V x (y, pc, lv, .inl v :: r, M) := by
  intro ls H locs hl hP hS
  exact lv_istore_n C.1 C.2.1 (kb_dec hi) rfl (kb_lh_has hl) (by rw [← hl.2.1]; exact hk) rfl (fun ls1 h1 => K ls1 H locs (kb_lh_set (v := .inl v) hl h1) hP hS)
theorem kv_sta (C : kb_C x y) {k : Nat} {v : Option Nat} {r : List kb_v} (hi : kb_ft y pc = some (.astore k)) (hk : k < lv.length) (K : kb_V x (y, pc + 2, lv.set k (some (.inr v)), r, M)) : kb_V x (y, pc, lv, .inr v :: r, M) := by
  intro ls H locs hl hP hS
  cases v with
  | none => exact lv_astoreN C.1 C.2.1 (kb_dec hi) (kb_lh_has hl) (by rw [← hl.2.1]; exact hk) rfl (fun ls1 h1 => K ls1 H locs (kb_lh_set (v := .inr none) hl h1) hP hS)
  | some a => exact lv_astore C.1 C.2.1 (kb_dec hi) (kb_lh_has hl) (by rw [← hl.2.1]; exact hk) rfl (fun ls1 h1 => K ls1 H locs (kb_lh_set (v := .inr (some a)) hl h1) hP hS)
theorem kv_stan (C : kb_C x y) {k : Fin 4} {v : Option Nat} {r : List kb_v} (hi : kb_ft y pc = some (.astore_n k)) (hk : k.val < lv.length) (K : kb_V x (y, pc + 1, lv.set k.val (some (.inr v)), r, M)) : kb_V x (y, pc, lv, .inr v :: r, M) := by
  intro ls H locs hl hP hS
  cases v with
  | none => exact lv_astore_nN C.1 C.2.1 (kb_dec hi) rfl (kb_lh_has hl) (by rw [← hl.2.1]; exact hk) rfl (fun ls1 h1 => K ls1 H locs (kb_lh_set (v := .inr none) hl h1) hP hS)
  | some a => exact lv_astore_n C.1 C.2.1 (kb_dec hi) rfl (kb_lh_has hl) (by rw [← hl.2.1]; exact hk) rfl (fun ls1 h1 => K ls1 H locs (kb_lh_set (v := .inr (some a)) hl h1) hP hS)
theorem kv_lda (C : kb_C x y) {k : Nat} {v : Option Nat} (hi : kb_ft y pc = some (.aload k)) (hv : lv[k]? = some (some (.inr v))) (K : kb_V x (y, pc + 2, lv, .inr v :: st, M)) : kb_V x (y, pc, lv, st, M) := by
  intro ls H locs hl hP hS
  have h1 := hl.2.2.2 k _ hv
  have h2 := K ls H locs hl hP hS
  cases v with
  | none => exact lv_aloadN C.1 C.2.1 (kb_dec hi) h1 h2
  | some a => exact lv_aload C.1 C.2.1 (kb_dec hi) h1 h2
theorem kv_ldan (C : kb_C x y) {k : Fin 4} {v : Option Nat} (hi : kb_ft y pc = some (.aload_n k)) (hv : lv[k.val]? = some (some (.inr v))) (K : kb_V x (y, pc + 1, lv, .inr v :: st, M)) : kb_V x (y, pc, lv, st, M) := by
  intro ls H locs hl hP hS
  have h1 := hl.2.2.2 k.val _ hv
  have h2 := K ls H locs hl hP hS
  cases v with
  | none => exact lv_aload_nN C.1 C.2.1 (kb_dec hi) rfl h1 h2
  | some a => exact lv_aload_n C.1 C.2.1 (kb_dec hi) rfl h1 h2
/-- the jumps: what a comparison says, as a truth value -/
theorem kb_dt {P : Prop} {_ : Decidable P} {X : Prop} (h : decide P = true → X) : P → X := fun q => h (decide_eq_true q)
theorem kb_df {P : Prop} {_ : Decidable P} {X : Prop} (h : decide P = false → X) : ¬ P → X := fun q => h (decide_eq_false q)
theorem kb_dfn {P : Prop} {_ : Decidable (¬ P)} {X : Prop} (h : decide (¬ P) = false → X) : P → X := fun q => h (decide_eq_false (fun z => z q))
theorem kv_if {cnd : Jvm.ClassFile.Cond} {off : Int} (C : kb_C x y) (hi : kb_ft y pc = some (.ifCond cnd off)) (ho : kb_st (.ifCond cnd off) y pc lv st M = some o) (K : kb_af x y o) : kb_V x (y, pc, lv, st, M) := by
  cases cnd with
  | eq =>
    obtain ⟨a, r, t, rfl, ht, k1, k2⟩ := ks_b1 (f := fun a => decide (a = 0)) ho K
    exact fun ls H locs hl hP hS => lv_if_eq C.1 C.2.1 (kb_dec hi) ht (fun q => kb_dt k1 q ls H locs hl hP hS) (fun q => kb_df k2 q ls H locs hl hP hS)
  | ne =>
    obtain ⟨a, r, t, rfl, ht, k1, k2⟩ := ks_b1 (f := fun a => decide (¬ a = 0)) ho K
    exact fun ls H locs hl hP hS => lv_if_ne C.1 C.2.1 (kb_dec hi) ht (fun q => kb_dt k1 q ls H locs hl hP hS) (fun q => kb_dfn k2 q ls H locs hl hP hS)
  | lt =>
    obtain ⟨a, r, t, rfl, ht, k1, k2⟩ := ks_b1 (f := fun a => decide (a < 0)) ho K
    exact fun ls H locs hl hP hS => lv_if_lt C.1 C.2.1 (kb_dec hi) ht (fun q => kb_dt k1 q ls H locs hl hP hS) (fun q => kb_df k2 q ls H locs hl hP hS)
  | ge =>
    obtain ⟨a, r, t, rfl, ht, k1, k2⟩ := ks_b1 (f := fun a => decide (0 ≤ a)) ho K
    exact fun ls H locs hl hP hS => lv_if_ge C.1 C.2.1 (kb_dec hi) ht (fun q => kb_dt k1 q ls H locs hl hP hS) (fun q => kb_df k2 q ls H locs hl hP hS)
  | gt => exact absurd (show (none : Option kb_O) = some o from ho) (by simp)
  | le => exact absurd (show (none : Option kb_O) = some o from ho) (by simp)
theorem kv_icmp {cnd : Jvm.ClassFile.Cond} {off : Int} (C : kb_C x y) (hi : kb_ft y pc = some (.if_icmp cnd off)) (ho : kb_st (.if_icmp cnd off) y pc lv st M = some o) (K : kb_af x y o) : kb_V x (y, pc, lv, st, M) := by
  cases cnd with
  | eq =>
    obtain ⟨a, b, r, t, rfl, ht, k1, k2⟩ := ks_b2 (f := fun a b => decide (a = b)) ho K
    exact fun ls H locs hl hP hS => lv_icmp_eq C.1 C.2.1 (kb_dec hi) ht (fun q => kb_dt k1 q ls H locs hl hP hS) (fun q => kb_df k2 q ls H locs hl hP hS)
  | ne =>
    obtain ⟨a, b, r, t, rfl, ht, k1, k2⟩ := ks_b2 (f := fun a b => decide (¬ a = b)) ho K
    exact fun ls H locs hl hP hS => lv_icmp_ne C.1 C.2.1 (kb_dec hi) ht (fun q => kb_dt k1 q ls H locs hl hP hS) (fun q => kb_dfn k2 q ls H locs hl hP hS)
  | lt =>
    obtain ⟨a, b, r, t, rfl, ht, k1, k2⟩ := ks_b2 (f := fun a b => decide (a < b)) ho K
    exact fun ls H locs hl hP hS => lv_icmp_lt C.1 C.2.1 (kb_dec hi) ht (fun q => kb_dt k1 q ls H locs hl hP hS) (fun q => kb_df k2 q ls H locs hl hP hS)
  | ge =>
    obtain ⟨a, b, r, t, rfl, ht, k1, k2⟩ := ks_b2 (f := fun a b => decide (b ≤ a)) ho K
    exact fun ls H locs hl hP hS => lv_icmp_ge C.1 C.2.1 (kb_dec hi) ht (fun q => kb_dt k1 q ls H locs hl hP hS) (fun q => kb_df k2 q ls H locs hl hP hS)
  | gt =>
    obtain ⟨a, b, r, t, rfl, ht, k1, k2⟩ := ks_b2 (f := fun a b => decide (b < a)) ho K
    exact fun ls H locs hl hP hS => lv_icmp_gt C.1 C.2.1 (kb_dec hi) ht (fun q => kb_dt k1 q ls H locs hl hP hS) (fun q => kb_df k2 q ls H locs hl hP hS)
  | le =>
    obtain ⟨a, b, r, t, rfl, ht, k1, k2⟩ := ks_b2 (f := fun a b => decide (a ≤ b)) ho K
    exact fun ls H locs hl hP hS => lv_icmp_le C.1 C.2.1 (kb_dec hi) ht (fun q => kb_dt k1 q ls H locs hl hP hS) (fun q => kb_df k2 q ls H locs hl hP hS)
theorem kv_null {off : Int} (C : kb_C x y) (hi : kb_ft y pc = some (.ifnull off)) (ho : kb_nu off y pc lv st M = some o) (K : kb_af x y o) : kb_V x (y, pc, lv, st, M) := by
  unfold kb_nu at ho
  split at ho
  next r =>
    obtain ⟨t, ht, k⟩ := ks_gt ho K
    exact fun ls H locs hl hP hS => lv_ifnullN C.1 C.2.1 (kb_dec hi) ht (k ls H locs hl hP hS)
  next a r =>
    have k := kb_k1 ho K
    exact fun ls H locs hl hP hS => lv_ifnull C.1 C.2.1 (kb_dec hi) (k ls H locs hl hP hS)
  next => cases ho
theorem kv_nonnull {off : Int} (C : kb_C x y) (hi : kb_ft y pc = some (.ifnonnull off)) (ho : kb_nn off y pc lv st M = some o) (K : kb_af x y o) : kb_V x (y, pc, lv, st, M) := by
  unfold kb_nn at ho
  split at ho
  next a r =>
    obtain ⟨t, ht, k⟩ := ks_gt ho K
    exact fun ls H locs hl hP hS => lv_ifnonnull C.1 C.2.1 (kb_dec hi) ht (k ls H locs hl hP hS)
  next r =>
    have k := kb_k1 ho K
    exact fun ls H locs hl hP hS => lv_ifnonnullN C.1 C.2.1 (kb_dec hi) (k ls H locs hl hP hS)
  next => cases ho
theorem kv_stack (C : kb_C x y) : (∀ (_ : kb_ft y pc = some .pop) (_ : kb_po y pc lv st M = some o) (_ : kb_af x y o), kb_V x (y, pc, lv, st, M)) ∧ (∀ (_ : kb_ft y pc = some .dup) (_ : kb_du y pc lv st M = some o) (_ : kb_af x y o), kb_V x (y, pc, lv, st, M)) ∧ (∀ (_ : kb_ft y pc = some .dup2) (_ : kb_du2 y pc lv st M = some o) (_ : kb_af x y o), kb_V x (y, pc, lv, st, M)) := by
  refine ⟨fun hi ho K => ?_, fun hi ho K => ?_, fun hi ho K => ?_⟩
  · unfold kb_po at ho
    split at ho
    next a r =>
      have k := kb_k1 ho K
      exact fun ls H locs hl hP hS => lv_pop C.1 C.2.1 (kb_dec hi) (kb_tv_cat _ a) (k ls H locs hl hP hS)
    next => cases ho
  · unfold kb_du at ho
    split at ho
    next a r =>
      have k := kb_k1 ho K
      exact fun ls H locs hl hP hS => lv_dup C.1 C.2.1 (kb_dec hi) (kb_tv_cat _ a) (k ls H locs hl hP hS)
    next => cases ho
  · unfold kb_du2 at ho
    split at ho
    next a b r =>
      have k := kb_k1 ho K
      exact fun ls H locs hl hP hS => lv_dup2_11 C.1 C.2.1 (kb_dec hi) (kb_tv_cat _ a) (kb_tv_cat _ b) (k ls H locs hl hP hS)
    next => cases ho
theorem kv_alen (C : kb_C x y) (hi : kb_ft y pc = some .arraylength) (ho : kb_al y pc lv st M = some o) (K : kb_af x y o) : kb_V x (y, pc, lv, st, M) := by
  unfold kb_al at ho
  split at ho
  next c r =>
    split at ho
    next u n rs hc =>
      have k := kb_k1 ho K
      obtain ⟨h1, h2⟩ := kb_celA hc
      obtain ⟨ty, h3⟩ := kb_tyU (kx_cA x) h2
      intro ls H locs hl hP hS
      cases hu : Nat.ble 2 u with
      | true =>
        have ha : (kb_w (kx_ad x) (kx_cA x) M)[c]? = some (kx_ad x c, .inl (kx_cA x u, n, .inr (.inr (.inr (.inr (fun j => (rs.getD j none).map (kx_ad x))))))) := by rw [kb_w_at h1, kb_ce_r hc hu]
        exact va_alen C.1 C.2.1 C.2.2.2.2.2.1 hP c u ha h3 rfl (kb_dec hi) (k ls H locs hl hP hS)
      | false =>
        have ha : (kb_w (kx_ad x) (kx_cA x) M)[c]? = some (kx_ad x c, .inl (kx_cA x u, n, .inl (M c))) := by rw [kb_w_at h1, kb_ce_a hc hu]
        exact va_alen C.1 C.2.1 C.2.2.2.2.2.1 hP c u ha h3 rfl (kb_dec hi) (k ls H locs hl hP hS)
    next => cases ho
  next => cases ho
theorem ks_ld {t : Nat} (ho : kb_ld t y pc lv st M = some o) (K : kb_af x y o) : ∃ i c r n rs, st = .inl i :: .inr (some c) :: r ∧ kb_cel c = some (.inl (t, n, rs)) ∧ vp_in i n ∧ kb_V x (y, pc + 1, lv, .inl (M c i.toNatClampNeg) :: r, M) := by
  unfold kb_ld at ho
  split at ho
  next i c r =>
    split at ho
    next u n rs hc =>
      split at ho
      next hu =>
        have e := Nat.eq_of_beq_eq_true hu
        subst e
        obtain ⟨h1, h2⟩ := kb_k5 ho K
        exact ⟨i, c, r, n, rs, rfl, hc, kb_in_vp h1, h2⟩
      next => cases ho
    next => cases ho
  next => cases ho
theorem kv_iald (C : kb_C x y) (hi : kb_ft y pc = some .iaload) (ho : kb_ld 0 y pc lv st M = some o) (K : kb_af x y o) : kb_V x (y, pc, lv, st, M) := by
  obtain ⟨i, c, r, n, rs, rfl, hc, hin, k⟩ := ks_ld ho K
  exact fun ls H locs hl hP hS => va_iald C.1 C.2.1 C.2.2.2.2.2.1 hP c 0 (by rw [kb_w_at (kb_celA hc).1, kb_ce_a hc rfl]) rfl hin (kb_dec hi) (k ls H locs hl hP hS)
theorem kv_zald (C : kb_C x y) (hi : kb_ft y pc = some .baload) (ho : kb_ld 1 y pc lv st M = some o) (K : kb_af x y o) : kb_V x (y, pc, lv, st, M) := by
  obtain ⟨i, c, r, n, rs, rfl, hc, hin, k⟩ := ks_ld ho K
  exact fun ls H locs hl hP hS => va_zald C.1 C.2.1 C.2.2.2.2.2.1 hP c 1 (by rw [kb_w_at (kb_celA hc).1, kb_ce_a hc rfl]) rfl hin (kb_dec hi) (k ls H locs hl hP hS)
theorem kv_aald (C : kb_C x y) (hi : kb_ft y pc = some .aaload) (ho : kb_ar y pc lv st M = some o) (K : kb_af x y o) : kb_V x (y, pc, lv, st, M) := by
  unfold kb_ar at ho
  split at ho
  next i c r =>
    split at ho
    next u n rs hc =>
      split at ho
      next hu =>
        obtain ⟨h1, k⟩ := kb_k5 ho K
        obtain ⟨h2, h3⟩ := kb_celA hc
        obtain ⟨N, h4⟩ := kb_tyR (kx_cA x) h3 hu
        have ha : (kb_w (kx_ad x) (kx_cA x) M)[c]? = some (kx_ad x c, .inl (kx_cA x u, n, .inr (.inr (.inr (.inr (fun j => (rs.getD j none).map (kx_ad x))))))) := by rw [kb_w_at h2, kb_ce_r hc hu]
        exact fun ls H locs hl hP hS => va_aldq C.1 C.2.1 C.2.2.2.2.2.1 hP c u ha h4 (kb_in_vp h1) (kb_dec hi) (k ls H locs hl hP hS)
      next => cases ho
    next => cases ho
  next => cases ho
theorem kv_iast (C : kb_C x y) (hi : kb_ft y pc = some .iastore) (ho : kb_si0 y pc lv st M = some o) (K : kb_af x y o) : kb_V x (y, pc, lv, st, M) := by
  unfold kb_si0 at ho
  split at ho
  next v i c r =>
    split at ho
    next u n rs hc =>
      split at ho
      next hu =>
        have e := Nat.eq_of_beq_eq_true hu
        subst e
        obtain ⟨h1, k⟩ := kb_k5 ho K
        intro ls H locs hl hP hS
        refine va_iast C.1 C.2.1 C.2.2.2.2.2.1 hP (kb_wD C.2.2.2.2.2.2.2.2) hS c 0 (by rw [kb_w_at (kb_celA hc).1, kb_ce_a hc rfl]) rfl (kb_in_vp h1) (kb_dec hi) (fun H1 locs1 hP1 _ hS1 => k ls H1 locs1 hl ?_ hS1)
        rw [← kb_ce_a (row := upd (M c) i.toNatClampNeg v) hc rfl, kb_w_set] at hP1
        exact hP1
      next => cases ho
    next => cases ho
  next => cases ho
theorem kb_01 {v : Int32} (h : (v == 0 || v == 1) = true) : v = 0 ∨ v = 1 := by
  simpa using h
theorem kb_nar {v : Int32} (h : v = 0 ∨ v = 1) : vp_nar .boolean v = v ∧ narrow .boolean (.int v) = .int v ∧ fits .boolean (.int v) = true := by
  rcases h with rfl | rfl
  · exact ⟨by decide, by decide, by decide⟩
  · exact ⟨by decide, by decide, by decide⟩
theorem kv_zast (C : kb_C x y) (hi : kb_ft y pc = some .bastore) (ho : kb_sz1 y pc lv st M = some o) (K : kb_af x y o) : kb_V x (y, pc, lv, st, M) := by
  unfold kb_sz1 at ho
  split at ho
  next v i c r =>
    split at ho
    next u n rs hc =>
      split at ho
      next hu =>
        have e := Nat.eq_of_beq_eq_true hu
        subst e
        obtain ⟨h0, k⟩ := kb_k5 ho K
        rw [Bool.and_eq_true] at h0
        obtain ⟨h1, h2⟩ := h0
        have hn := (kb_nar (kb_01 h2)).1
        intro ls H locs hl hP hS
        refine va_zast C.1 C.2.1 C.2.2.2.2.2.1 hP (kb_wD C.2.2.2.2.2.2.2.2) hS c 1 (by rw [kb_w_at (kb_celA hc).1, kb_ce_a hc rfl]) rfl (kb_in_vp h1) (kb_dec hi) (fun H1 locs1 hP1 _ hS1 => k ls H1 locs1 hl ?_ hS1)
        rw [hn, ← kb_ce_a (row := upd (M c) i.toNatClampNeg v) hc rfl, kb_w_set] at hP1
        exact hP1
      next => cases ho
    next => cases ho
  next => cases ho
theorem kv_get {f : Nat} (C : kb_C x y) (hi : kb_ft y pc = some (.getfield f)) (ho : kb_gf f y pc lv st M = some o) (K : kb_af x y o) : kb_V x (y, pc, lv, st, M) := by
  unfold kb_gf at ho
  split at ho
  next c r =>
    split at ho
    next ci k t hf =>
      split at ho
      next cj fs hc =>
        obtain ⟨N, T, n, h1, h2, h3, h4, -⟩ := kb_flok hf
        split at ho
        next hb hk =>
          have e := Nat.eq_of_beq_eq_true hb
          subst e
          have kk := kb_k1 ho K
          exact fun ls H locs hl hP hS => va_get C.1 C.2.1 C.2.2.2.2.1 (fun w hw => List.mem_cons_of_mem _ (h3 w hw)) C.2.2.2.1 C.2.2.2.2.2.1 hP c (by rw [kb_w_at (kb_celO hc), kb_ce_o hc]) h1 k h2 (kb_hw C h4) (fun _ h9 => h9) (by rw [kb_fv_n fs 0 k hk, Nat.zero_add]; rfl) (kb_dec hi) (kk ls H locs hl hP hS)
        next q hb hk =>
          have e := Nat.eq_of_beq_eq_true hb
          subst e
          have kk := kb_k1 ho K
          exact fun ls H locs hl hP hS => va_get C.1 C.2.1 C.2.2.2.2.1 (fun w hw => List.mem_cons_of_mem _ (h3 w hw)) C.2.2.2.1 C.2.2.2.2.2.1 hP c (by rw [kb_w_at (kb_celO hc), kb_ce_o hc]) h1 k h2 (kb_hw C h4) (fun _ h9 => h9) (kb_fv_s fs 0 k hk) (kb_dec hi) (kk ls H locs hl hP hS)
        next => cases ho
      next => cases ho
    next => cases ho
  next => cases ho
/-- a number goes into a field of kind ty -/
theorem kv_put0 {f c ci k t : Nat} {v : Int32} {r : List kb_v} {fs : List (Option (Option Nat))} {ty : FieldType} (C : kb_C x y) (hi : kb_ft y pc = some (.putfield f)) (hf : kb_fl y f = some (ci, k, t)) (hc : kb_cel c = some (.inr (ci, fs))) (hk : fs[k]? = some none)
    (hty : ∀ N T n, kb_cl[ci]? = some (N, T, n) → (T k).2.2.2 = false ∧ parseFieldDescriptor (T k).2.2.1 = some ty) (hn : narrow ty (.int v) = .int v) (hft : fits ty (.int v) = true)
    (kk : kb_V x (y, pc + 3, lv, r, kb_up M c k v)) : kb_V x (y, pc, lv, .inl v :: .inr (some c) :: r, M) := by
  obtain ⟨N, T, n, h1, h2, h3, h4, -⟩ := kb_flok hf
  obtain ⟨h5, h6⟩ := hty N T n h1
  obtain ⟨⟨ty0, h7⟩, h8⟩ := kb_clok h1
  have hkl : k < fs.length := (List.getElem?_eq_some_iff.mp hk).1
  intro ls H locs hl hP hS
  refine va_put C.1 C.2.1 C.2.2.2.2.1 (fun w hw => List.mem_cons_of_mem _ (h3 w hw)) ty0 h7 h8 C.2.2.2.1 C.2.2.2.2.2.1 hP (kb_wD C.2.2.2.2.2.2.2.2) hS c (by rw [kb_w_at (kb_celO hc), kb_ce_o hc]) h1 k h2 (kb_hw C h4) (fun _ h9 => h9) h5 h6 hn hft (by rw [kb_fv_len]; exact hkl) (kb_dec hi) (fun H1 locs1 hP1 _ hS1 => kk ls H1 locs1 hl ?_ hS1)
  have hP1 : va_P (kx_D x) kb_cl ((kb_w (kx_ad x) (kx_cA x) M).set c (kx_ad x c, .inr (ci, (kb_fv (kx_ad x) (M c) 0 fs).set k (.int v)))) H1 := hP1
  rw [kb_fv_set fs 0 k hk, Nat.zero_add, ← kb_ce_o (row := upd (M c) k v) hc, kb_w_set] at hP1
  exact hP1
theorem kv_put {f : Nat} (C : kb_C x y) (hi : kb_ft y pc = some (.putfield f)) (ho : kb_pf f y pc lv st M = some o) (K : kb_af x y o) : kb_V x (y, pc, lv, st, M) := by
  unfold kb_pf at ho
  split at ho
  next v c r =>
    split at ho
    next ci k t hf =>
      split at ho
      next cj fs hc =>
        obtain ⟨N, T, n, h1, -, -, -, h5, h6⟩ := kb_flok hf
        split at ho
        next hb hk =>
          have e := Nat.eq_of_beq_eq_true hb
          subst e
          refine kv_put0 (ty := .int) C hi hf hc hk (fun N1 T1 n1 g => ?_) rfl rfl (kb_k1 ho K)
          cases h1.symm.trans g
          exact h5 rfl
        next hb hk =>
          have e := Nat.eq_of_beq_eq_true hb
          subst e
          obtain ⟨g1, g2⟩ := kb_k5 ho K
          refine kv_put0 (ty := .boolean) C hi hf hc hk (fun N1 T1 n1 g => ?_) (kb_nar (kb_01 g1)).2.1 (kb_nar (kb_01 g1)).2.2 g2
          cases h1.symm.trans g
          exact h6 rfl
        next => cases ho
      next => cases ho
    next => cases ho
  next => cases ho
theorem kv_ret (C : kb_C x y) : (∀ (_ : kb_ft y pc = some .ireturn) (_ : kb_re y st M = some o) (_ : kb_af x y o), kb_V x (y, pc, lv, st, M)) ∧ (∀ (_ : kb_ft y pc = some .areturn) (_ : kb_ra y st M = some o) (_ : kb_af x y o), kb_V x (y, pc, lv, st, M)) ∧ (∀ (_ : kb_ft y pc = some .return_) (_ : kb_rv y st M = some o) (_ : kb_af x y o), kb_V x (y, pc, lv, st, M)) := by
  have hr := C.2.2.2.2.2.2.1
  have hlocks : (kx_t x).locks = false := C.2.2.2.2.2.2.2.1
  have hK := C.2.2.2.2.2.1
  refine ⟨fun hi ho K => ?_, fun hi ho K => ?_, fun hi ho K => ?_⟩
  · unfold kb_re at ho
    split at ho
    next v ht =>
      obtain ⟨-, h2⟩ := kb_k2 ho K
      exact fun ls H locs hl hP hS => W.iret C.1 C.2.1 (by rw [hr]; exact ht) (fun t ht hW => ⟨⟨(some (.inl v), M), rfl, h2, by rw [ht]; exact hP, va_K.moved hW.alike hK⟩, hS.F ht⟩) hS.2.2 (kb_dec hi) hlocks
    next v ht =>
      obtain ⟨h1, h2⟩ := kb_k2 ho K
      exact fun ls H locs hl hP hS => W.zret (ty := .boolean) C.1 C.2.1 (by rw [hr]; exact ht) (kb_nar (kb_01 h1)).2.1 (fun t ht hW => ⟨⟨(some (.inl v), M), rfl, h2, by rw [ht]; exact hP, va_K.moved hW.alike hK⟩, hS.F ht⟩) hS.2.2 (kb_dec hi) hlocks
    next => cases ho
  · unfold kb_ra at ho
    split at ho
    next n v ht =>
      obtain ⟨-, h2⟩ := kb_k2 ho K
      exact fun ls H locs hl hP hS => W.aret (v := kb_tv (kx_ad x) (.inr v)) C.1 C.2.1 (by rw [hr]; exact ht) (Or.inl ⟨n, rfl⟩) (by cases v with | none => exact Or.inl rfl | some a => exact Or.inr ⟨_, rfl⟩) (fun t ht hW => ⟨⟨(some (.inr v), M), rfl, h2, by rw [ht]; exact hP, va_K.moved hW.alike hK⟩, hS.F ht⟩) hS.2.2 (kb_dec hi) hlocks
    next => cases ho
  · unfold kb_rv at ho
    split at ho
    next ht =>
      obtain ⟨-, h2⟩ := kb_k2 ho K
      exact fun ls H locs hl hP hS => W.vret C.1 C.2.1 (by rw [hr]; exact ht) (fun t ht hW => ⟨⟨(none, M), rfl, h2, by rw [ht]; exact hP, va_K.moved hW.alike hK⟩, hS.F ht⟩) hS.2.2 (kb_dec hi) hlocks
    next => cases ho
theorem kb_ok_d {y z : Nat} {r : List kb_v} (h : kb_ok y z r = true) : (kb_fr z + 1 ≤ kb_fr y ∧ 8 + (kb_mL z + 11) + kb_lo z ≤ kb_lo y) ∧ r.length ≤ 8 := by
  unfold kb_ok at h
  simp only [Bool.and_eq_true] at h
  exact ⟨⟨Nat.le_of_ble_eq_true h.1.1, Nat.le_of_ble_eq_true h.1.2⟩, Nat.le_of_ble_eq_true h.2⟩
/-- behind a call -/
theorem kb_behind {t : kb_T} {r : kb_R} (h : kb_V x (kb_pu (y, t) r)) : ∀ (ls : Array Slot) (H : Heap) (locs : List Loc), kb_lh (kx_ad x) ls (kb_mL y) t.2.1 → va_P (kx_D x) kb_cl (kb_w (kx_ad x) (kx_cA x) r.2) H → va_S (kb_A (kx_ad x)) (kx_s x).heap H locs →
    W (kx_p x) (kx_l x) (kx_e x) (kb_rm y) (kx_s x) (kx_m x) (kx_a x) (kx_b x) (kx_t x) (kx_c x) H locs 0 0 (MQ (kx_b x) (kb_Q (kx_D x) (kx_ad x) (kx_cA x) (kx_po x)) (kx_a x) (kx_s x) 0 0 (kb_A (kx_ad x))) (F0 (kx_m x) t.1 ls ((r.1.map (kb_tv (kx_ad x))).toList ++ t.2.2.1.map (kb_tv (kx_ad x)))) := by
  obtain ⟨v, M1⟩ := r
  intro ls H locs hl hP hS
  cases v with
  | none => exact h ls H locs hl hP hS
  | some v => exact h ls H locs hl hP hS
theorem kv_virt {f : Nat} (C : kb_C x y) (hi : kb_ft y pc = some (.invokevirtual f)) (ho : kb_iv f y pc lv st M = some o) (K : kb_af x y o) : kb_V x (y, pc, lv, st, M) := by
  unfold kb_iv at ho
  split at ho
  next z hz =>
    split at ho
    next c r hd =>
      split at ho
      next cj fs hc =>
        split at ho
        next hb hok =>
          have e := Nat.eq_of_beq_eq_true hb
          subst e
          cases ho
          obtain ⟨hlk, hin, hse, hini, hcode, hmh, hvh, hpar, hpl, hml, T, n, hcl⟩ := kb_caok hz
          obtain ⟨r0, hM, hV⟩ := K hpl (by
            have h1 : (List.take (kb_np z) st).length ≤ kb_np z := by rw [List.length_take]; exact Nat.min_le_left _ _
            rw [List.length_cons, List.length_reverse]
            omega)
          obtain ⟨hroom, hlen⟩ := kb_ok_d hok
          intro ls H locs hl hP hS
          have hn : (List.map (kb_tv (kx_ad x)) (List.take (kb_np z) st).reverse).length = kb_np z := by
            have h1 := congrArg List.length hd
            simp only [List.length_drop, List.length_cons] at h1
            simp only [List.length_map, List.length_reverse, List.length_take]
            omega
          refine kb_callg (va_runV (As := (List.take (kb_np z) st).reverse.map (kb_tv (kx_ad x))) (rest := r.map (kb_tv (kx_ad x))) (C := (kb_nm z).cls) (b := kx_ad x c) (kb_fix C) hM
            (cwV (kb_np z) C.2.2.2.2.1 ?_ rfl rfl rfl ⟨rfl, hmh, hvh, hpar⟩ hroom) ⟨kb_blind, va_recv C.2.2.2.2.2.1 hP hcl (by rw [kb_w_at (kb_celO hc), kb_ce_o hc]), fun U hU hW => ⟨rfl, by rw [hU]; exact hP, va_K.moved hW.alike C.2.2.2.2.2.1⟩⟩ rfl hn hl.1 ?_ (lv_room (by rw [kb_cats]; exact hlen)) (kb_dec hi) ⟨Nat.le_refl _, Nat.le_refl _⟩) hS (fun q h => h) (fun q h => h) (fun r1 H1 locs1 hr1 hP1 hS1 => ?_)
          · intro w hw
            rcases List.mem_append.mp hw with hw | hw
            · rcases List.mem_cons.mp hw with rfl | hw
              · exact kb_all_good hlk
              rcases List.mem_cons.mp hw with rfl | hw
              · exact kb_all_good hin
              rcases List.mem_cons.mp hw with rfl | hw
              · exact kb_all_good hse
              rcases List.mem_cons.mp hw with rfl | hw
              · exact kb_all_good hini
              · cases hw
            · exact kb_wo_good hcode w hw
          · show List.map (kb_tv (kx_ad x)) st = _
            rw [← List.map_reverse, List.reverse_reverse]
            conv => lhs; rw [← List.take_append_drop (kb_np z) st, hd]
            rw [List.map_append]
            rfl
          · subst hr1
            exact kb_behind hV ls H1 locs1 hl hP1 hS1
        next => cases ho
      next => cases ho
    next => cases ho
  next => cases ho
theorem kv_stat0 {f z : Nat} (C : kb_C x y) (hi : kb_ft y pc = some (.invokestatic f)) (hz : kb_cs y f = some (.inl z)) (ho : kb_cs0 z y pc lv st M = some o) (K : kb_af x y o) : kb_V x (y, pc, lv, st, M) := by
  unfold kb_cs0 at ho
  split at ho
  next hb hok =>
    cases ho
    obtain ⟨hlk, hst, hcl, hini, hcode, hmh, hvh, hpar, hpl, hml⟩ := kb_csok hz
    obtain ⟨r0, hM, hV⟩ := K hpl (by
      have h1 : (List.take (kb_np z) st).length ≤ kb_np z := by rw [List.length_take]; exact Nat.min_le_left _ _
      rw [List.length_reverse]
      omega)
    obtain ⟨hroom, hlen⟩ := kb_ok_d hok
    intro ls H locs hl hP hS
    have hn : (List.map (kb_tv (kx_ad x)) (List.take (kb_np z) st).reverse).length = kb_np z := by
      have h1 := Nat.le_of_ble_eq_true hb
      simp only [List.length_map, List.length_reverse, List.length_take]
      omega
    refine kb_callg (va_runS (As := (List.take (kb_np z) st).reverse.map (kb_tv (kx_ad x))) (rest := (st.drop (kb_np z)).map (kb_tv (kx_ad x))) (kb_fix C) hM
      (cwS (kb_np z) C.2.2.2.2.1 ?_ rfl rfl rfl ⟨hcl, hmh, hvh, hpar⟩ hroom) ⟨kb_blind, fun U hU hW => ⟨rfl, by rw [hU]; exact hP, va_K.moved hW.alike C.2.2.2.2.2.1⟩⟩ rfl hn hl.1 ?_ (lv_room (by rw [kb_cats]; exact hlen)) (kb_dec hi) ⟨Nat.le_refl _, Nat.le_refl _⟩) hS (fun q h => h) (fun q h => h) (fun r1 H1 locs1 hr1 hP1 hS1 => ?_)
    · intro w hw
      rcases List.mem_append.mp hw with hw | hw
      · rcases List.mem_cons.mp hw with rfl | hw
        · exact kb_all_good hlk
        rcases List.mem_cons.mp hw with rfl | hw
        · exact kb_all_good hst
        rcases List.mem_cons.mp hw with rfl | hw
        · exact kb_all_good (by rw [← hcl]; exact hini)
        · cases hw
      · exact kb_wo_good hcode w hw
    · show List.map (kb_tv (kx_ad x)) st = _
      rw [← List.map_reverse, List.reverse_reverse, ← List.map_append, List.take_append_drop]
    · subst hr1
      exact kb_behind hV ls H1 locs1 hl hP1 hS1
  next => cases ho
theorem ks_mi (ho : kb_mi y pc lv st M = some o) (K : kb_af x y o) : ∃ (a b : Int32) (r : List kb_v), st = .inl b :: .inl a :: r ∧ kb_V x (y, pc + 3, lv, .inl (if b < a then b else a) :: r, M) := by
  unfold kb_mi at ho
  split at ho
  next b a r => exact ⟨a, b, r, rfl, kb_k1 ho K⟩
  next => cases ho
theorem ks_mx (ho : kb_mx y pc lv st M = some o) (K : kb_af x y o) : ∃ (a b : Int32) (r : List kb_v), st = .inl b :: .inl a :: r ∧ kb_V x (y, pc + 3, lv, .inl (if a < b then b else a) :: r, M) := by
  unfold kb_mx at ho
  split at ho
  next b a r => exact ⟨a, b, r, rfl, kb_k1 ho K⟩
  next => cases ho
theorem ks_cp (ho : kb_cp y pc lv st M = some o) (K : kb_af x y o) : ∃ (n dp sp : Int32) (d a : Nat) (r : List kb_v) (n0 n1 : Nat) (rs0 rs1 : List (Option Nat)), st = .inl n :: .inl dp :: .inr (some d) :: .inl sp :: .inr (some a) :: r ∧ kb_cel a = some (.inl (0, n0, rs0)) ∧ kb_cel d = some (.inl (0, n1, rs1)) ∧ kb_cpo sp dp n n0 n1 = true ∧ kb_V x (y, pc + 3, lv, r, kb_ro M d (va_cpy (M a) (M d) sp.toNatClampNeg dp.toNatClampNeg n.toNatClampNeg)) := by
  unfold kb_cp at ho
  split at ho
  next n dp d sp a r =>
    split at ho
    next t0 n0 rs0 t1 n1 rs1 hc0 hc1 =>
      split at ho
      next e0 e1 =>
        have e0 := Nat.eq_of_beq_eq_true e0
        have e1 := Nat.eq_of_beq_eq_true e1
        subst e0
        subst e1
        obtain ⟨hcp, k⟩ := kb_k5 ho K
        exact ⟨n, dp, sp, d, a, r, n0, n1, rs0, rs1, rfl, hc0, hc1, hcp, k⟩
      next => cases ho
    next => cases ho
  next => cases ho
theorem kb_3 {a b c : Bool} (h : (a && b && c) = true) : a = true ∧ b = true ∧ c = true := by
  cases a <;> cases b <;> cases c <;> simp at h ⊢
theorem kv_stat {f : Nat} (C : kb_C x y) (hi : kb_ft y pc = some (.invokestatic f)) (ho : kb_is f y pc lv st M = some o) (K : kb_af x y o) : kb_V x (y, pc, lv, st, M) := by
  unfold kb_is at ho
  split at ho
  next z hz => exact kv_stat0 C hi hz ho K
  next t hz =>
    obtain ⟨h0, h1, h2⟩ := kb_csl hz
    split at ho
    next hb =>
      obtain ⟨b1, b2, b3⟩ := kb_3 hb
      have b1 := Nat.le_of_ble_eq_true b1
      have b2 := Nat.le_of_ble_eq_true b2
      have b3 := Nat.le_of_ble_eq_true b3
      obtain ⟨g1, g2, g3, g4⟩ := h0 rfl
      obtain ⟨a, b, r, e, k⟩ := ks_mi ho K
      subst e
      have hr : r.length + 13 ≤ kb_lo y := by simp only [List.length_cons] at b3; omega
      exact fun ls H locs hl hP hS => va_mmin C.1 C.2.1 (by rw [hl.1]; exact C.2.2.1) C.2.2.2.1 (kb_hw C g1) (kb_hw C g2) (kb_hw C g3) (kb_hw C g4) b1 (by rw [kb_cats]; exact hr) (Nat.zero_le _) (Nat.zero_le _) (kb_dec hi) (k ls H locs hl hP hS)
    next hb =>
      obtain ⟨b1, b2, b3⟩ := kb_3 hb
      have b1 := Nat.le_of_ble_eq_true b1
      have b2 := Nat.le_of_ble_eq_true b2
      have b3 := Nat.le_of_ble_eq_true b3
      obtain ⟨g1, g2, g3, g4⟩ := h1 rfl
      obtain ⟨a, b, r, e, k⟩ := ks_mx ho K
      subst e
      have hr : r.length + 13 ≤ kb_lo y := by simp only [List.length_cons] at b3; omega
      exact fun ls H locs hl hP hS => va_mmax C.1 C.2.1 (by rw [hl.1]; exact C.2.2.1) C.2.2.2.1 (kb_hw C g1) (kb_hw C g2) (kb_hw C g3) (kb_hw C g4) b1 (by rw [kb_cats]; exact hr) (Nat.zero_le _) (Nat.zero_le _) (kb_dec hi) (k ls H locs hl hP hS)
    next hb =>
      obtain ⟨b1, b2, b3⟩ := kb_3 hb
      have b1 := Nat.le_of_ble_eq_true b1
      have b2 := Nat.le_of_ble_eq_true b2
      have b3 := Nat.le_of_ble_eq_true b3
      obtain ⟨g1, g2, g3, g4⟩ := h2 rfl
      obtain ⟨n, dp, sp, d, a, r, n0, n1, rs0, rs1, e, hc0, hc1, hcp, k⟩ := ks_cp ho K
      subst e
      unfold kb_cpo at hcp
      simp only [Bool.and_eq_true, Bool.not_eq_true', decide_eq_false_iff_not] at hcp
      obtain ⟨⟨⟨⟨c1, c2⟩, c3⟩, c4⟩, c5⟩ := hcp
      have hr : r.length + (nativeFrameWords "java/lang/System" "arraycopy" 5 + 11) ≤ kb_lo y := by
        have hw : nativeFrameWords "java/lang/System" "arraycopy" 5 = 7 := by decide +kernel
        rw [hw]
        simp only [List.length_cons] at b3
        omega
      intro ls H locs hl hP hS
      refine va_copyi C.1 C.2.1 (by rw [hl.1]; exact C.2.2.1) C.2.2.2.1 (kb_hw C g1) (kb_hw C g2) (kb_hw C g3) (kb_hw C g4) C.2.2.2.2.2.1 hP (kb_wD C.2.2.2.2.2.2.2.2) hS a d 0 0 (ty := .int) (by rw [kb_w_at (kb_celA hc0).1, kb_ce_a hc0 rfl]) (by rw [kb_w_at (kb_celA hc1).1, kb_ce_a hc1 rfl]) rfl rfl rfl c1 c2 c3 (Nat.le_of_ble_eq_true c4) (Nat.le_of_ble_eq_true c5) (fun _ _ => rfl) b1 (by rw [kb_cats]; exact hr) (kb_dec hi) (fun H1 locs1 hP1 _ hS1 => k ls H1 locs1 hl ?_ hS1)
      rw [← kb_ce_a (row := va_cpy (M a) (M d) sp.toNatClampNeg dp.toNatClampNeg n.toNatClampNeg) hc1 rfl, kb_w_set] at hP1
      exact hP1
    next => cases ho
  next => cases ho
set_option maxHeartbeats 4000000 in
/-- one step -/
theorem kb_sim {i : Jvm.ClassFile.Instr} (C : kb_C x y) (hi : kb_ft y pc = some i) (ho : kb_st i y pc lv st M = some o) (K : kb_af x y o) : kb_V x (y, pc, lv, st, M) := by
  cases i
  all_goals try exact absurd (show (none : Option kb_O) = some o from ho) (by simp)
  case iconst n => exact fun ls H locs hl hP hS => lv_iconst C.1 C.2.1 (kb_dec hi) rfl (kb_k1 ho K ls H locs hl hP hS)
  case bipush n => exact fun ls H locs hl hP hS => lv_bipush C.1 C.2.1 (kb_dec hi) rfl (kb_k1 ho K ls H locs hl hP hS)
  case sipush n => exact fun ls H locs hl hP hS => lv_sipush C.1 C.2.1 (kb_dec hi) rfl (kb_k1 ho K ls H locs hl hP hS)
  case ldc n =>
    have ho : kb_lc n y pc lv st M = some o := ho
    unfold kb_lc at ho
    split at ho
    next v hv => exact fun ls H locs hl hP hS => lv_ldc C.1 C.2.1 C.2.2.2.1 (kb_hw C (kb_kcok hv)) (kb_dec hi) (kb_k1 ho K ls H locs hl hP hS)
    next => cases ho
  case aconst_null => exact fun ls H locs hl hP hS => lv_null C.1 C.2.1 (kb_dec hi) (kb_k1 ho K ls H locs hl hP hS)
  case iload_n k =>
    obtain ⟨v, hv, h⟩ := ks_li (k := k.val) ho K
    exact fun ls H locs hl hP hS => lv_iload_n C.1 C.2.1 (kb_dec hi) rfl (hl.2.2.2 k.val _ hv) (h ls H locs hl hP hS)
  case iload k =>
    obtain ⟨v, hv, h⟩ := ks_li (k := k) ho K
    exact fun ls H locs hl hP hS => lv_iload C.1 C.2.1 (kb_dec hi) (hl.2.2.2 k _ hv) (h ls H locs hl hP hS)
  case aload_n k =>
    obtain ⟨v, hv, h⟩ := ks_la (k := k.val) ho K
    exact kv_ldan C hi hv h
  case aload k =>
    obtain ⟨v, hv, h⟩ := ks_la (k := k) ho K
    exact kv_lda C hi hv h
  case istore_n k =>
    obtain ⟨v, r, rfl, h1, h⟩ := ks_si (k := k.val) ho K
    exact kv_stin C hi h1 h
  case istore k =>
    obtain ⟨v, r, rfl, h1, h⟩ := ks_si (k := k) ho K
    exact kv_sti C hi h1 h
  case astore_n k =>
    obtain ⟨v, r, rfl, h1, h⟩ := ks_sa (k := k.val) ho K
    exact kv_stan C hi h1 h
  case astore k =>
    obtain ⟨v, r, rfl, h1, h⟩ := ks_sa (k := k) ho K
    exact kv_sta C hi h1 h
  case iinc k n => exact kv_iinc C hi ho K
  case pop => exact (kv_stack C).1 hi ho K
  case dup => exact (kv_stack C).2.1 hi ho K
  case dup2 => exact (kv_stack C).2.2 hi ho K
  case iadd =>
    obtain ⟨a, b, r, rfl, h⟩ := ks_a2 (f := fun a b => a + b) ho K
    exact fun ls H locs hl hP hS => lv_iadd C.1 C.2.1 (kb_dec hi) (h ls H locs hl hP hS)
  case isub =>
    obtain ⟨a, b, r, rfl, h⟩ := ks_a2 (f := fun a b => a - b) ho K
    exact fun ls H locs hl hP hS => lv_isub C.1 C.2.1 (kb_dec hi) (h ls H locs hl hP hS)
  case imul =>
    obtain ⟨a, b, r, rfl, h⟩ := ks_a2 (f := fun a b => a * b) ho K
    exact fun ls H locs hl hP hS => lv_imul C.1 C.2.1 (kb_dec hi) (h ls H locs hl hP hS)
  case idiv =>
    obtain ⟨a, b, r, rfl, h0, h⟩ := ks_d2 (f := fun a b => a / b) ho K
    exact fun ls H locs hl hP hS => lv_idiv C.1 C.2.1 (kb_dec hi) h0 (h ls H locs hl hP hS)
  case irem =>
    obtain ⟨a, b, r, rfl, h0, h⟩ := ks_d2 (f := fun a b => a - a / b * b) ho K
    exact fun ls H locs hl hP hS => lv_irem C.1 C.2.1 (kb_dec hi) h0 (h ls H locs hl hP hS)
  case goto off =>
    obtain ⟨t, ht, h⟩ := ks_gt (off := off) ho K
    exact fun ls H locs hl hP hS => lv_goto C.1 C.2.1 (kb_dec hi) ht (h ls H locs hl hP hS)
  case ifCond cnd off => exact kv_if C hi ho K
  case if_icmp cnd off => exact kv_icmp C hi ho K
  case ifnull off => exact kv_null C hi ho K
  case ifnonnull off => exact kv_nonnull C hi ho K
  case arraylength => exact kv_alen C hi ho K
  case iaload => exact kv_iald C hi ho K
  case baload => exact kv_zald C hi ho K
  case aaload => exact kv_aald C hi ho K
  case iastore => exact kv_iast C hi ho K
  case bastore => exact kv_zast C hi ho K
  case getfield f => exact kv_get C hi ho K
  case putfield f => exact kv_put C hi ho K
  case invokevirtual f => exact kv_virt C hi ho K
  case invokestatic f => exact kv_stat C hi ho K
  case ireturn => exact (kv_ret C).1 hi ho K
  case areturn => exact (kv_ret C).2.1 hi ho K
  case return_ => exact (kv_ret C).2.2 hi ho K
end KS
/-- the locals at a method's entry -/
theorem kb_entry_at (ad : Nat → Nat) : ∀ (a : List kb_v) (i j : Nat) (v : kb_v), (a.map some)[i]? = some (some v) → (j + i, kb_tv ad v) ∈ lv_args j (a.map (kb_tv ad)) := by
  intro a
  induction a with
  | nil => intro i j v h; simp at h
  | cons w a ih =>
    intro i j v h
    have e : lv_args j ((w :: a).map (kb_tv ad)) = (j, kb_tv ad w) :: lv_args (j + 1) (a.map (kb_tv ad)) := by
      show lv_args j (kb_tv ad w :: a.map (kb_tv ad)) = _
      rw [lv_args, kb_tv_cat]
      rfl
    rw [e]
    cases i with
    | zero =>
      have h : some (some w) = some (some v) := h
      cases h
      exact List.mem_cons_self
    | succ i =>
      have h1 := ih i (j + 1) v h
      rw [show j + (i + 1) = j + 1 + i by omega]
      exact List.mem_cons_of_mem _ h1
theorem kb_sl (ad : Nat → Nat) (a : List kb_v) : (lg_sl (a.map (kb_tv ad))).length = a.length := by
  induction a with
  | nil => rfl
  | cons w a ih =>
    unfold lg_sl at ih ⊢
    rw [List.map_cons, List.flatMap_cons, kb_tv_cat, List.length_append, ih]
    simp
    omega
theorem kb_entry {ad : Nat → Nat} {a : List kb_v} {n : Nat} (h : a.length ≤ n) : kb_lh ad ((lg_sl (a.map (kb_tv ad)) ++ List.replicate (n - (lg_sl (a.map (kb_tv ad))).length) Slot.unset).toArray) n (a.map some ++ List.replicate (n - a.length) none) := by
  have h1 := lv_entry (a.map (kb_tv ad)) (n := n) (by rw [kb_sl]; exact h)
  refine ⟨h1.1, by simp; omega, h1.2.1, fun i v hv => ?_⟩
  by_cases hi : i < (a.map some).length
  · rw [List.getElem?_append_left hi] at hv
    have h2 := kb_entry_at ad a i 0 v hv
    rw [Nat.zero_add] at h2
    exact h1.2.2 _ h2
  · rw [List.getElem?_append_right (by omega)] at hv
    have h3 := List.mem_of_getElem? hv
    have h4 := (List.mem_replicate.mp h3).2
    cases h4
/-- a method's contract out of its walk -/
theorem kb_met {l : Launch} {D : va_G} {ad : Nat → Nat} {cA : Nat → ClassId} {po : kb_R → Prop} {z : Nat} {a : List kb_v} {M : kb_M} (hp : plainName (kb_nm z).cls = true) (hinj : kb_inj ad) (hl : a.length ≤ kb_mL z) (h : ∀ x : kb_X, kx_l x = l → kx_D x = D → kx_ad x = ad → kx_cA x = cA → kx_po x = po → kb_C x z → kb_V x (kb_en z a M)) :
    Met l (kb_nm z) (kb_wo z) (kb_rm z) (kb_Pc D ad cA a M) (kb_Q D ad cA po) 0 0 (kb_A ad) := by
  refine Met.ofW (cc := kb_by z) (maxL := kb_mL z) (ret := kb_rt z) hp rfl ?_
  intro p e s m args below meth c s₁ B hml hv
  obtain ⟨rfl, hP, hK⟩ := hv
  have hts := atoms_spec (ws := kb_wo z) B.pre
  have hV := h (p, l, e, s, m, (a.map (kb_tv ad)).toArray, below, meth, c, D, ad, cA, po) rfl rfl rfl rfl rfl ⟨B.exec, B.bytes, hml, findClass_of_methodNamed B.named, hts, hK, B.returns, B.notSynchronized, hinj⟩
  rw [lg_entry_eq]
  exact hV _ s.heap [] (kb_entry hl) hP va_S.rf
/-- a run of the small machine is a run of the machine -/
theorem kb_main : ∀ (n : Nat) (σ : kb_S) (r : kb_R), kb_ex n σ = some r → ∀ x : kb_X, kb_C x σ.1 → kx_po x r → kb_V x σ := by
  intro n
  induction n with
  | zero => intro σ r h; cases h
  | succ n ih =>
    intro σ r h x C hpo
    obtain ⟨y, pc, lv, st, M⟩ := σ
    rw [kb_ex] at h
    cases hs : kb_step (y, pc, lv, st, M) with
    | none => rw [hs] at h; cases h
    | some o =>
      have hs0 := hs
      unfold kb_step at hs
      dsimp only at hs
      cases hi : kb_ft y pc with
      | none => rw [hi] at hs; cases hs
      | some i =>
        rw [hi] at hs
        refine kb_sim C hi hs ?_
        rw [hs0] at h
        rcases o with t | ⟨b, r1⟩ | ⟨z, a, t⟩ | ⟨b, t, t2⟩ | ⟨b, t⟩
        · exact ih (y, t) r h x C hpo
        · cases b
          · cases h
          · have h : some r1 = some r := h
            cases h
            exact ⟨rfl, hpo⟩
        · dsimp only at h
          cases h1 : kb_ex n (kb_en z a t.2.2.2) with
          | none => rw [h1] at h; cases h
          | some r1 =>
            rw [h1] at h
            exact fun g1 g2 => ⟨r1, kb_met g1 C.2.2.2.2.2.2.2.2 g2 (fun x1 e1 e2 e3 e4 e5 C1 => ih (kb_en z a t.2.2.2) r1 h1 x1 C1 (by rw [e5])), ih _ r h x C hpo⟩
        · cases b
          · exact ⟨fun q => (by cases q), fun _ => ih (y, t2) r h x C hpo⟩
          · exact ⟨fun _ => ih (y, t) r h x C hpo, fun q => (by cases q)⟩
        · cases b
          · cases h
          · exact ⟨rfl, ih (y, t) r h x C hpo⟩
/-- the contract of a method that reaches Q -/
theorem kb_sound {l : Launch} {D : va_G} {ad : Nat → Nat} {cA : Nat → ClassId} {Q : kb_R → Prop} {z : Nat} {a : List kb_v} {M : kb_M} (hp : plainName (kb_nm z).cls = true) (hinj : kb_inj ad) (hl : a.length ≤ kb_mL z) (h : kb_E (kb_en z a M) Q) :
    Met l (kb_nm z) (kb_wo z) (kb_rm z) (kb_Pc D ad cA a M) (kb_Q D ad cA Q) 0 0 (kb_A ad) := by
  obtain ⟨n, r, h1, h2⟩ := kb_E_get h
  exact kb_met hp hinj hl (fun x e1 e2 e3 e4 e5 C => kb_main n (kb_en z a M) r h1 x C (by rw [e5]; exact h2))
