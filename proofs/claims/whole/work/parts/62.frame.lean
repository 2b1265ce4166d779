/-! a run stays in its region: the class's cells (below 33) or the reference's -/
def kg_k (g : Bool) (k : Nat) : Prop := Nat.blt k 33 = g
def kg_v (g : Bool) (v : kb_v) : Prop := ∀ c, v = .inr (some c) → kg_k g c
def kg_L (g : Bool) (lv : List (Option kb_v)) : Prop := ∀ v, some v ∈ lv → kg_v g v
def kg_S (g : Bool) (st : List kb_v) : Prop := ∀ v ∈ st, kg_v g v
def kg_m (g : Bool) (M D : kb_M) : Prop := ∀ k, ¬ kg_k g k → D k = M k
def kg_t (g : Bool) (M : kb_M) (t : kb_T) : Prop := kg_L g t.2.1 ∧ kg_S g t.2.2.1 ∧ kg_m g M t.2.2.2
def kg_r (g : Bool) (M : kb_M) (r : kb_R) : Prop := (∀ v, r.1 = some v → kg_v g v) ∧ kg_m g M r.2
def kg_o (g : Bool) (M : kb_M) (o : kb_O) : Prop := match o with
  | .inl t => kg_t g M t
  | .inr (.inl (_, r)) => kg_r g M r
  | .inr (.inr (.inl (_, a, t))) => kg_S g a ∧ kg_t g M t
  | .inr (.inr (.inr (.inl (_, t, t2)))) => kg_t g M t ∧ kg_t g M t2
  | .inr (.inr (.inr (.inr (_, t)))) => kg_t g M t
/-- where the references of a cell lead -/
def kg_c1 (c : Nat) (r : Option Nat) : Bool := match r with
  | none => true
  | some q => Nat.blt c 33 == Nat.blt q 33
def kg_cB (q : Nat × kb_sh) : Bool := match q.2 with
  | .inl (_, _, rs) => rs.all (kg_c1 q.1)
  | .inr (_, fs) => fs.all (fun f => match f with | none => true | some r => kg_c1 q.1 r)
theorem kg_ceP : kb_ceL.all kg_cB = true := by decide +kernel
theorem kg_c1v {g : Bool} {c : Nat} {r : Option Nat} (h : kg_c1 c r = true) (hc : kg_k g c) : kg_v g (.inr r) := by
  intro q hq
  cases hq
  have h : (Nat.blt c 33 == Nat.blt q 33) = true := h
  have e := eq_of_beq h
  unfold kg_k at hc ⊢
  rw [← e]
  exact hc
theorem kg_celA {g : Bool} {c u n i : Nat} {rs : List (Option Nat)} (h : kb_cel c = some (.inl (u, n, rs))) (hc : kg_k g c) : kg_v g (.inr (rs.getD i none)) := by
  have h1 := List.all_eq_true.mp kg_ceP _ (kb_lk_mem h)
  have h1 : rs.all (kg_c1 c) = true := h1
  rw [List.getD_eq_getElem?_getD]
  cases hi : rs[i]? with
  | none => intro q hq; cases hq
  | some r => exact kg_c1v (List.all_eq_true.mp h1 r (List.mem_of_getElem? hi)) hc
theorem kg_celO {g : Bool} {c cj k : Nat} {fs : List (Option (Option Nat))} {q : Option Nat} (h : kb_cel c = some (.inr (cj, fs))) (hk : fs[k]? = some (some q)) (hc : kg_k g c) : kg_v g (.inr q) := by
  have h1 := List.all_eq_true.mp kg_ceP _ (kb_lk_mem h)
  have h1 : fs.all (fun f => match f with | none => true | some r => kg_c1 c r) = true := h1
  exact kg_c1v (List.all_eq_true.mp h1 _ (List.mem_of_getElem? hk)) hc
theorem kg_i (g : Bool) (x : Int32) : kg_v g (.inl x) := fun c h => by cases h
theorem kg_n (g : Bool) : kg_v g (.inr none) := fun c h => by cases h
theorem kg_c {g : Bool} {v : kb_v} {r : List kb_v} : kg_S g (v :: r) ↔ kg_v g v ∧ kg_S g r := List.forall_mem_cons
theorem kg_m0 (g : Bool) (M : kb_M) : kg_m g M M := fun _ _ => rfl
theorem kg_ro {g : Bool} {M : kb_M} {c : Nat} (h : kg_k g c) (f : Nat → Int32) : kg_m g M (kb_ro M c f) := fun k hk => by
  have : k ≠ c := fun e => hk (by rw [e]; exact h)
  unfold kb_ro
  rw [if_neg this]
theorem kg_up {g : Bool} {M : kb_M} {c : Nat} (h : kg_k g c) (i : Nat) (x : Int32) : kg_m g M (kb_up M c i x) := kg_ro h _
theorem kg_Lset {g : Bool} {lv : List (Option kb_v)} {k : Nat} {v : kb_v} (h : kg_L g lv) (hv : kg_v g v) : kg_L g (lv.set k (some v)) := by
  intro w hw
  rcases List.mem_or_eq_of_mem_set hw with h1 | h1
  · exact h w h1
  · cases h1
    exact hv
theorem kg_Lget {g : Bool} {lv : List (Option kb_v)} {k : Nat} {v : kb_v} (h : kg_L g lv) (hv : lv[k]? = some (some v)) : kg_v g v := h v (List.mem_of_getElem? hv)
section KG
variable {g : Bool} {y pc : Nat} {lv : List (Option kb_v)} {st : List kb_v} {M : kb_M} {o : kb_O}
theorem kg_nx {pc1 : Nat} {lv1 : List (Option kb_v)} {st1 : List kb_v} {M1 : kb_M} (ho : kb_nx y pc1 lv1 st1 M1 = some o) (hl : kg_L g lv1) (hs : kg_S g st1) (hm : kg_m g M M1) : kg_o g M o := by
  unfold kb_nx at ho
  cases ho
  exact ⟨hl, hs, hm⟩
theorem kg_as {b : Bool} {pc1 : Nat} {lv1 : List (Option kb_v)} {st1 : List kb_v} {M1 : kb_M} (ho : kb_as b y pc1 lv1 st1 M1 = some o) (hl : kg_L g lv1) (hs : kg_S g st1) (hm : kg_m g M M1) : kg_o g M o := by
  unfold kb_as at ho
  cases ho
  exact ⟨hl, hs, hm⟩
theorem kg_a2 {f : Int32 → Int32 → Int32} (ho : kb_a2 f y pc lv st M = some o) (hl : kg_L g lv) (hs : kg_S g st) : kg_o g M o := by
  unfold kb_a2 at ho
  split at ho
  next b a r => exact kg_nx ho hl (kg_c.mpr ⟨kg_i g _, (kg_c.mp (kg_c.mp hs).2).2⟩) (kg_m0 g M)
  next => cases ho
theorem kg_d2 {f : Int32 → Int32 → Int32} (ho : kb_d2 f y pc lv st M = some o) (hl : kg_L g lv) (hs : kg_S g st) : kg_o g M o := by
  unfold kb_d2 at ho
  split at ho
  next b a r => exact kg_as ho hl (kg_c.mpr ⟨kg_i g _, (kg_c.mp (kg_c.mp hs).2).2⟩) (kg_m0 g M)
  next => cases ho
theorem kg_b1 {f : Int32 → Bool} {off : Int} (ho : kb_b1 f off y pc lv st M = some o) (hl : kg_L g lv) (hs : kg_S g st) : kg_o g M o := by
  unfold kb_b1 at ho
  split at ho
  next a r =>
    split at ho
    next t ht =>
      cases ho
      exact ⟨⟨hl, (kg_c.mp hs).2, kg_m0 g M⟩, ⟨hl, (kg_c.mp hs).2, kg_m0 g M⟩⟩
    next => cases ho
  next => cases ho
theorem kg_b2 {f : Int32 → Int32 → Bool} {off : Int} (ho : kb_b2 f off y pc lv st M = some o) (hl : kg_L g lv) (hs : kg_S g st) : kg_o g M o := by
  unfold kb_b2 at ho
  split at ho
  next b a r =>
    have h2 := (kg_c.mp (kg_c.mp hs).2).2
    split at ho
    next t ht =>
      cases ho
      exact ⟨⟨hl, h2, kg_m0 g M⟩, ⟨hl, h2, kg_m0 g M⟩⟩
    next => cases ho
  next => cases ho
theorem kg_lc {x : Nat} (ho : kb_lc x y pc lv st M = some o) (hl : kg_L g lv) (hs : kg_S g st) : kg_o g M o := by
  unfold kb_lc at ho
  split at ho
  next v hv => exact kg_nx (y := y) ho hl (kg_c.mpr ⟨kg_i g _, hs⟩) (kg_m0 g M)
  next => cases ho
theorem kg_li {k : Nat} (ho : kb_li k y pc lv st M = some o) (hl : kg_L g lv) (hs : kg_S g st) : kg_o g M o := by
  unfold kb_li at ho
  split at ho
  next x hx => exact kg_nx (y := y) ho hl (kg_c.mpr ⟨kg_i g _, hs⟩) (kg_m0 g M)
  next => cases ho
theorem kg_lra {k : Nat} (ho : kb_la k y pc lv st M = some o) (hl : kg_L g lv) (hs : kg_S g st) : kg_o g M o := by
  unfold kb_la at ho
  split at ho
  next x hx => exact kg_nx ho hl (kg_c.mpr ⟨kg_Lget hl hx, hs⟩) (kg_m0 g M)
  next => cases ho
theorem kg_si {k : Nat} (ho : kb_si k y pc lv st M = some o) (hl : kg_L g lv) (hs : kg_S g st) : kg_o g M o := by
  unfold kb_si at ho
  split at ho
  next x r z hz => exact kg_nx ho (kg_Lset hl (kg_i g _)) (kg_c.mp hs).2 (kg_m0 g M)
  next => cases ho
theorem kg_sa {k : Nat} (ho : kb_sa k y pc lv st M = some o) (hl : kg_L g lv) (hs : kg_S g st) : kg_o g M o := by
  unfold kb_sa at ho
  split at ho
  next x r z hz => exact kg_nx ho (kg_Lset hl (kg_c.mp hs).1) (kg_c.mp hs).2 (kg_m0 g M)
  next => cases ho
theorem kg_ii {k : Nat} {n : Int} (ho : kb_ii k n y pc lv st M = some o) (hl : kg_L g lv) (hs : kg_S g st) : kg_o g M o := by
  unfold kb_ii at ho
  split at ho
  next x hx => exact kg_nx ho (kg_Lset hl (kg_i g _)) hs (kg_m0 g M)
  next => cases ho
theorem kg_gt {off : Int} (ho : kb_gt off y pc lv st M = some o) (hl : kg_L g lv) (hs : kg_S g st) : kg_o g M o := by
  unfold kb_gt at ho
  split at ho
  next t ht => exact kg_nx ho hl hs (kg_m0 g M)
  next => cases ho
theorem kg_nu {off : Int} (ho : kb_nu off y pc lv st M = some o) (hl : kg_L g lv) (hs : kg_S g st) : kg_o g M o := by
  unfold kb_nu at ho
  split at ho
  next r => exact kg_gt ho hl (kg_c.mp hs).2
  next x r => exact kg_nx ho hl (kg_c.mp hs).2 (kg_m0 g M)
  next => cases ho
theorem kg_nn {off : Int} (ho : kb_nn off y pc lv st M = some o) (hl : kg_L g lv) (hs : kg_S g st) : kg_o g M o := by
  unfold kb_nn at ho
  split at ho
  next x r => exact kg_gt ho hl (kg_c.mp hs).2
  next r => exact kg_nx ho hl (kg_c.mp hs).2 (kg_m0 g M)
  next => cases ho
theorem kg_po (ho : kb_po y pc lv st M = some o) (hl : kg_L g lv) (hs : kg_S g st) : kg_o g M o := by
  unfold kb_po at ho
  split at ho
  next a r => exact kg_nx ho hl (kg_c.mp hs).2 (kg_m0 g M)
  next => cases ho
theorem kg_du (ho : kb_du y pc lv st M = some o) (hl : kg_L g lv) (hs : kg_S g st) : kg_o g M o := by
  unfold kb_du at ho
  split at ho
  next a r => exact kg_nx ho hl (kg_c.mpr ⟨(kg_c.mp hs).1, hs⟩) (kg_m0 g M)
  next => cases ho
theorem kg_du2 (ho : kb_du2 y pc lv st M = some o) (hl : kg_L g lv) (hs : kg_S g st) : kg_o g M o := by
  unfold kb_du2 at ho
  split at ho
  next a b r => exact kg_nx ho hl (kg_c.mpr ⟨(kg_c.mp hs).1, kg_c.mpr ⟨(kg_c.mp (kg_c.mp hs).2).1, hs⟩⟩) (kg_m0 g M)
  next => cases ho
theorem kg_al (ho : kb_al y pc lv st M = some o) (hl : kg_L g lv) (hs : kg_S g st) : kg_o g M o := by
  unfold kb_al at ho
  split at ho
  next c r =>
    split at ho
    next => exact kg_nx ho hl (kg_c.mpr ⟨kg_i g _, (kg_c.mp hs).2⟩) (kg_m0 g M)
    next => cases ho
  next => cases ho
theorem kg_ld {t : Nat} (ho : kb_ld t y pc lv st M = some o) (hl : kg_L g lv) (hs : kg_S g st) : kg_o g M o := by
  unfold kb_ld at ho
  split at ho
  next i c r =>
    split at ho
    next =>
      split at ho
      next => exact kg_as ho hl (kg_c.mpr ⟨kg_i g _, (kg_c.mp (kg_c.mp hs).2).2⟩) (kg_m0 g M)
      next => cases ho
    next => cases ho
  next => cases ho
theorem kg_ar (ho : kb_ar y pc lv st M = some o) (hl : kg_L g lv) (hs : kg_S g st) : kg_o g M o := by
  unfold kb_ar at ho
  split at ho
  next i c r =>
    obtain ⟨-, h2⟩ := kg_c.mp hs
    obtain ⟨h3, h4⟩ := kg_c.mp h2
    split at ho
    next u n rs hc =>
      split at ho
      next => exact kg_as ho hl (kg_c.mpr ⟨kg_celA hc (h3 c rfl), h4⟩) (kg_m0 g M)
      next => cases ho
    next => cases ho
  next => cases ho
theorem kg_si0 (ho : kb_si0 y pc lv st M = some o) (hl : kg_L g lv) (hs : kg_S g st) : kg_o g M o := by
  unfold kb_si0 at ho
  split at ho
  next x i c r =>
    obtain ⟨-, h2⟩ := kg_c.mp hs
    obtain ⟨-, h2⟩ := kg_c.mp h2
    obtain ⟨h3, h4⟩ := kg_c.mp h2
    split at ho
    next =>
      split at ho
      next => exact kg_as ho hl h4 (kg_up (h3 c rfl) _ _)
      next => cases ho
    next => cases ho
  next => cases ho
theorem kg_sz1 (ho : kb_sz1 y pc lv st M = some o) (hl : kg_L g lv) (hs : kg_S g st) : kg_o g M o := by
  unfold kb_sz1 at ho
  split at ho
  next x i c r =>
    obtain ⟨-, h2⟩ := kg_c.mp hs
    obtain ⟨-, h2⟩ := kg_c.mp h2
    obtain ⟨h3, h4⟩ := kg_c.mp h2
    split at ho
    next =>
      split at ho
      next => exact kg_as ho hl h4 (kg_up (h3 c rfl) _ _)
      next => cases ho
    next => cases ho
  next => cases ho
theorem kg_gf {x : Nat} (ho : kb_gf x y pc lv st M = some o) (hl : kg_L g lv) (hs : kg_S g st) : kg_o g M o := by
  unfold kb_gf at ho
  split at ho
  next c r =>
    obtain ⟨h3, h4⟩ := kg_c.mp hs
    split at ho
    next ci k t hf =>
      split at ho
      next cj fs hc =>
        split at ho
        next => exact kg_nx ho hl (kg_c.mpr ⟨kg_i g _, h4⟩) (kg_m0 g M)
        next q e1 e2 => exact kg_nx ho hl (kg_c.mpr ⟨kg_celO hc e2 (h3 c rfl), h4⟩) (kg_m0 g M)
        next => cases ho
      next => cases ho
    next => cases ho
  next => cases ho
theorem kg_pf {x : Nat} (ho : kb_pf x y pc lv st M = some o) (hl : kg_L g lv) (hs : kg_S g st) : kg_o g M o := by
  unfold kb_pf at ho
  split at ho
  next v c r =>
    obtain ⟨-, h2⟩ := kg_c.mp hs
    obtain ⟨h3, h4⟩ := kg_c.mp h2
    split at ho
    next ci k t hf =>
      split at ho
      next cj fs hc =>
        split at ho
        next => exact kg_nx ho hl h4 (kg_up (h3 c rfl) _ _)
        next => exact kg_as ho hl h4 (kg_up (h3 c rfl) _ _)
        next => cases ho
      next => cases ho
    next => cases ho
  next => cases ho
theorem kg_drop {n : Nat} (hs : kg_S g st) : kg_S g (st.drop n) := fun v hv => hs v (List.mem_of_mem_drop hv)
theorem kg_take {n : Nat} (hs : kg_S g st) : kg_S g (st.take n).reverse := fun v hv => hs v (List.mem_of_mem_take (List.mem_reverse.mp hv))
theorem kg_iv {x : Nat} (ho : kb_iv x y pc lv st M = some o) (hl : kg_L g lv) (hs : kg_S g st) : kg_o g M o := by
  unfold kb_iv at ho
  split at ho
  next z hz =>
    split at ho
    next c r hd =>
      have h1 := kg_drop (n := kb_np z) hs
      rw [hd] at h1
      obtain ⟨h3, h4⟩ := kg_c.mp h1
      split at ho
      next cj fs hc =>
        split at ho
        next =>
          cases ho
          exact ⟨kg_c.mpr ⟨h3, kg_take hs⟩, hl, h4, kg_m0 g M⟩
        next => cases ho
      next => cases ho
    next => cases ho
  next => cases ho
theorem kg_cp (ho : kb_cp y pc lv st M = some o) (hl : kg_L g lv) (hs : kg_S g st) : kg_o g M o := by
  unfold kb_cp at ho
  split at ho
  next n dp d sp a r =>
    obtain ⟨-, h2⟩ := kg_c.mp hs
    obtain ⟨-, h2⟩ := kg_c.mp h2
    obtain ⟨h3, h2⟩ := kg_c.mp h2
    obtain ⟨-, h2⟩ := kg_c.mp h2
    obtain ⟨-, h4⟩ := kg_c.mp h2
    split at ho
    next =>
      split at ho
      next => exact kg_as ho hl h4 (kg_ro (h3 d rfl) _)
      next => cases ho
    next => cases ho
  next => cases ho
theorem kg_mi (ho : kb_mi y pc lv st M = some o) (hl : kg_L g lv) (hs : kg_S g st) : kg_o g M o := by
  unfold kb_mi at ho
  split at ho
  next b a r => exact kg_nx ho hl (kg_c.mpr ⟨kg_i g _, (kg_c.mp (kg_c.mp hs).2).2⟩) (kg_m0 g M)
  next => cases ho
theorem kg_mx (ho : kb_mx y pc lv st M = some o) (hl : kg_L g lv) (hs : kg_S g st) : kg_o g M o := by
  unfold kb_mx at ho
  split at ho
  next b a r => exact kg_nx ho hl (kg_c.mpr ⟨kg_i g _, (kg_c.mp (kg_c.mp hs).2).2⟩) (kg_m0 g M)
  next => cases ho
theorem kg_cs0 {z : Nat} (ho : kb_cs0 z y pc lv st M = some o) (hl : kg_L g lv) (hs : kg_S g st) : kg_o g M o := by
  unfold kb_cs0 at ho
  split at ho
  next =>
    cases ho
    exact ⟨kg_take hs, hl, kg_drop hs, kg_m0 g M⟩
  next => cases ho
theorem kg_is {x : Nat} (ho : kb_is x y pc lv st M = some o) (hl : kg_L g lv) (hs : kg_S g st) : kg_o g M o := by
  unfold kb_is at ho
  split at ho
  next z hz => exact kg_cs0 ho hl hs
  next t hz =>
    split at ho
    next => exact kg_mi ho hl hs
    next => exact kg_mx ho hl hs
    next => exact kg_cp ho hl hs
    next => cases ho
  next => cases ho
theorem kg_re (ho : kb_re y st M = some o) (hs : kg_S g st) : kg_o g M o := by
  unfold kb_re at ho
  split at ho
  next => cases ho; exact ⟨fun v h => hs v (by cases h; exact List.mem_cons_self), kg_m0 g M⟩
  next => cases ho; exact ⟨fun v h => hs v (by cases h; exact List.mem_cons_self), kg_m0 g M⟩
  next => cases ho
theorem kg_ra (ho : kb_ra y st M = some o) (hs : kg_S g st) : kg_o g M o := by
  unfold kb_ra at ho
  split at ho
  next => cases ho; exact ⟨fun v h => hs v (by cases h; exact List.mem_cons_self), kg_m0 g M⟩
  next => cases ho
theorem kg_rv (ho : kb_rv y st M = some o) : kg_o g M o := by
  unfold kb_rv at ho
  split at ho
  next => cases ho; exact ⟨fun v h => (by cases h), kg_m0 g M⟩
  next => cases ho
theorem kg_st {i : Jvm.ClassFile.Instr} (ho : kb_st i y pc lv st M = some o) (hl : kg_L g lv) (hs : kg_S g st) : kg_o g M o := by
  cases i
  all_goals try exact absurd (show (none : Option kb_O) = some o from ho) (by simp)
  case iconst n => exact kg_nx (y := y) ho hl (kg_c.mpr ⟨kg_i g _, hs⟩) (kg_m0 g M)
  case bipush n => exact kg_nx (y := y) ho hl (kg_c.mpr ⟨kg_i g _, hs⟩) (kg_m0 g M)
  case sipush n => exact kg_nx (y := y) ho hl (kg_c.mpr ⟨kg_i g _, hs⟩) (kg_m0 g M)
  case ldc n => exact kg_lc ho hl hs
  case aconst_null => exact kg_nx (y := y) ho hl (kg_c.mpr ⟨kg_n g, hs⟩) (kg_m0 g M)
  case iload_n k => exact kg_li (k := k.val) ho hl hs
  case iload k => exact kg_li ho hl hs
  case aload_n k => exact kg_lra (k := k.val) ho hl hs
  case aload k => exact kg_lra ho hl hs
  case istore_n k => exact kg_si (k := k.val) ho hl hs
  case istore k => exact kg_si ho hl hs
  case astore_n k => exact kg_sa (k := k.val) ho hl hs
  case astore k => exact kg_sa ho hl hs
  case iinc k n => exact kg_ii ho hl hs
  case pop => exact kg_po ho hl hs
  case dup => exact kg_du ho hl hs
  case dup2 => exact kg_du2 ho hl hs
  case iadd => exact kg_a2 (y := y) (f := fun a b => a + b) ho hl hs
  case isub => exact kg_a2 (y := y) (f := fun a b => a - b) ho hl hs
  case imul => exact kg_a2 (y := y) (f := fun a b => a * b) ho hl hs
  case idiv => exact kg_d2 (y := y) (f := fun a b => a / b) ho hl hs
  case irem => exact kg_d2 (y := y) (f := fun a b => a - a / b * b) ho hl hs
  case goto off => exact kg_gt ho hl hs
  case ifCond cnd off =>
    cases cnd with
    | eq => exact kg_b1 (y := y) (f := fun a => decide (a = 0)) ho hl hs
    | ne => exact kg_b1 (y := y) (f := fun a => decide (¬ a = 0)) ho hl hs
    | lt => exact kg_b1 (y := y) (f := fun a => decide (a < 0)) ho hl hs
    | ge => exact kg_b1 (y := y) (f := fun a => decide (0 ≤ a)) ho hl hs
    | _ => exact absurd (show (none : Option kb_O) = some o from ho) (by simp)
  case if_icmp cnd off =>
    cases cnd with
    | eq => exact kg_b2 (y := y) (f := fun a b => decide (a = b)) ho hl hs
    | ne => exact kg_b2 (y := y) (f := fun a b => decide (¬ a = b)) ho hl hs
    | lt => exact kg_b2 (y := y) (f := fun a b => decide (a < b)) ho hl hs
    | ge => exact kg_b2 (y := y) (f := fun a b => decide (b ≤ a)) ho hl hs
    | gt => exact kg_b2 (y := y) (f := fun a b => decide (b < a)) ho hl hs
    | le => exact kg_b2 (y := y) (f := fun a b => decide (a ≤ b)) ho hl hs
  case ifnull off => exact kg_nu ho hl hs
  case ifnonnull off => exact kg_nn ho hl hs
  case arraylength => exact kg_al ho hl hs
  case iaload => exact kg_ld ho hl hs
  case baload => exact kg_ld ho hl hs
  case aaload => exact kg_ar ho hl hs
  case iastore => exact kg_si0 ho hl hs
  case bastore => exact kg_sz1 ho hl hs
  case getfield f => exact kg_gf ho hl hs
  case putfield f => exact kg_pf ho hl hs
  case invokevirtual f => exact kg_iv ho hl hs
  case invokestatic f => exact kg_is ho hl hs
  case ireturn => exact kg_re ho hs
  case areturn => exact kg_ra ho hs
  case return_ => exact kg_rv ho
end KG
theorem kg_en {g : Bool} {z : Nat} {a : List kb_v} (ha : kg_S g a) : kg_L g (a.map some ++ List.replicate (kb_mL z - a.length) none) := by
  intro v hv
  rcases List.mem_append.mp hv with h | h
  · obtain ⟨w, h1, h2⟩ := List.mem_map.mp h
    cases h2
    exact ha v h1
  · have := (List.mem_replicate.mp h).2
    cases this
theorem kg_ex {g : Bool} : ∀ (n : Nat) (s : kb_S) (r : kb_R), kb_ex n s = some r → kg_L g s.2.2.1 → kg_S g s.2.2.2.1 → kg_r g s.2.2.2.2 r := by
  intro n
  induction n with
  | zero => intro s r h; cases h
  | succ n ih =>
    intro s r h hl hs
    rw [kb_ex] at h
    cases ho : kb_step s with
    | none => rw [ho] at h; cases h
    | some o =>
      rw [ho] at h
      have K : kg_o g s.2.2.2.2 o := by
        unfold kb_step at ho
        split at ho
        next i hi => exact kg_st ho hl hs
        next => cases ho
      have go : ∀ (t : kb_T), kb_ex n (s.1, t) = some r → kg_t g s.2.2.2.2 t → kg_r g s.2.2.2.2 r := by
        intro t ht kt
        obtain ⟨r1, r2⟩ := ih (s.1, t) r ht kt.1 kt.2.1
        exact ⟨r1, fun k hk => (r2 k hk).trans (kt.2.2 k hk)⟩
      rcases o with t | ⟨b, r1⟩ | ⟨z, a, t⟩ | ⟨b, t, t2⟩ | ⟨b, t⟩
      · exact go t h K
      · cases b
        · cases h
        · have h : some r1 = some r := h
          cases h
          exact K
      · dsimp only at h
        obtain ⟨ka, kl, ks, km⟩ := K
        cases h1 : kb_ex n (kb_en z a t.2.2.2) with
        | none => rw [h1] at h; cases h
        | some r1 =>
          rw [h1] at h
          obtain ⟨w1, w2⟩ := ih (kb_en z a t.2.2.2) r1 h1 (kg_en ka) (fun v hv => by cases hv)
          have hs2 : kg_S g (kb_pu (s.1, t) r1).2.2.2.1 := by
            unfold kb_pu
            obtain ⟨v1, M1⟩ := r1
            cases v1 with
            | none => exact ks
            | some v => exact kg_c.mpr ⟨w1 v rfl, ks⟩
          obtain ⟨y1, y2⟩ := ih _ r h (show kg_L g (kb_pu (s.1, t) r1).2.2.1 from kl) hs2
          exact ⟨y1, fun k hk => (y2 k hk).trans ((w2 k hk).trans (km k hk))⟩
      · cases b
        · exact go t2 h K.2
        · exact go t h K.1
      · cases b
        · cases h
        · exact go t h K
/-- a run has one end -/
theorem kb_E_one {s : kb_S} {Q1 Q2 : kb_R → Prop} (h1 : kb_E s Q1) (h2 : kb_E s Q2) : ∃ r, kb_E s (fun q => q = r) ∧ Q1 r ∧ Q2 r := by
  obtain ⟨n, r, g1, g2⟩ := kb_E_get h1
  obtain ⟨k, t, f1, f2⟩ := kb_E_get h2
  have e : r = t := Option.some.inj ((kb_mono (Nat.le_add_right n k) g1).symm.trans (kb_mono (Nat.le_add_left k n) f1))
  subst e
  exact ⟨r, kb_E_mk n r g1 rfl, g2, f2⟩
theorem kg_E {g : Bool} {z : Nat} {a : List kb_v} {M : kb_M} {Q : kb_R → Prop} (h : kb_E (kb_en z a M) Q) (ha : kg_S g a) : kb_E (kb_en z a M) (fun q => Q q ∧ kg_m g M q.2) := by
  obtain ⟨n, r, g1, g2⟩ := kb_E_get h
  exact kb_E_mk n r g1 ⟨g2, (kg_ex n _ r g1 (kg_en ha) (fun v hv => by cases hv)).2⟩
