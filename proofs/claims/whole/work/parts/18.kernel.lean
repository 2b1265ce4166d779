/-! the kernel: time, deadlines, wishes, claims -/
set_option maxRecDepth 100000 in
theorem ck_poolOf (C : kb_M) {b : Nat} (hb : b < 2) : kb_E (kb_en kz_Kernel_poolOf [.inr (some 1), .inl (nI b)] C) (fun q => q = (some (.inr (some (3 + 3 * b))), C)) := by
  refine kb_go 20 [] ?_
  match b, hb with
  | 0, _ => exact And.intro (fun _ => And.intro rfl rfl) (fun h => absurd h (by decide))
  | 1, _ => exact And.intro (fun h => absurd h (by decide)) (fun _ => And.intro rfl rfl)
set_option maxRecDepth 100000 in
theorem ck_guestOf (C : kb_M) {g : Nat} (hg : g < 2) : kb_E (kb_en kz_Kernel_guestOf [.inr (some 1), .inl (nI (2 + g))] C) (fun q => q = (some (.inr (some (9 + 5 * g))), C)) := by
  refine kb_go 20 [] ?_
  match g, hg with
  | 0, _ => exact And.intro (fun h => absurd h (by decide)) (fun _ => And.intro rfl rfl)
  | 1, _ =>
    refine And.intro (fun _ => ?_) (fun h => absurd h (by decide))
    exact And.intro (fun h => absurd h (by decide)) (fun _ => And.intro rfl rfl)
set_option maxRecDepth 100000 in
theorem ck_guestOf_no (C : kb_M) {v : Int32} (h0 : ¬ (2 ≤ v ∧ v ≤ 3)) : kb_E (kb_en kz_Kernel_guestOf [.inr (some 1), .inl v] C) (fun q => q = (some (.inr none), C)) := by
  refine kb_go 20 [] ?_
  refine And.intro (fun _ => ?_) (fun h => ?_)
  · refine And.intro (fun _ => And.intro rfl rfl) (fun h => ?_)
    have h : v = 3 := Classical.not_not.mp (of_decide_eq_false h)
    exact absurd (by rw [h]; exact ⟨by decide, by decide⟩) h0
  · have h : v = 2 := Classical.not_not.mp (of_decide_eq_false h)
    exact absurd (by rw [h]; exact ⟨by decide, by decide⟩) h0
set_option maxRecDepth 100000 in
theorem ck_moveTimeTo {N : Nat} {C R : kb_M} (h : ki_J N C R) (t : Int32) : kb_E (kb_en kz_Kernel_moveTimeTo [.inr (some 1), .inl t] C) (fun q => q.1 = some (.inl (nI (kr_k R t 0 (kr_bd R 0) + kr_k R t 1 (kr_bd R 1)))) ∧ ki_J N q.2 (kr_mv R t) ∧ (∀ k, k ≠ 1 → k ≠ 4 → k ≠ 7 → k ≠ 9 → k ≠ 14 → k ≠ 12 → k ≠ 17 → q.2 k = C k) ∧ q.2 1 = upd (C 1) 0 t ∧ q.2 9 = upd (C 9) 0 (C 9 0 + nI (kr_k R t 0 (kr_bd R 0))) ∧ q.2 14 = upd (C 14) 0 (C 14 0 + nI (kr_k R t 1 (kr_bd R 1)))) := by
  have e0 : kr_k (kb_up R 33 0 t) t 0 (kr_bd R 0) = kr_k R t 0 (kr_bd R 0) := kr_k_eq _ (fun j _ _ => ⟨by rw [kb_up_ne _ _ _ (by decide)], by rw [kb_up_ne _ _ _ (by decide)]⟩)
  have e1 : kr_k (kr_m0 R t) t 1 (kr_bd R 1) = kr_k R t 1 (kr_bd R 1) := kr_k_eq _ (fun j h1 _ => ⟨by unfold kr_m0; rw [kr_mg_42, if_neg (by have := (h.1.1 0 (by decide)).2; omega), kb_up_ne _ _ _ (by decide)], by unfold kr_m0; rw [kr_mg_ne _ _ _ _ (by decide) (by decide), kb_up_ne _ _ _ (by decide)]⟩)
  have b0 : kr_bd (kb_up R 33 0 t) 0 = kr_bd R 0 := by unfold kr_bd; rw [kb_up_ne _ _ _ (by decide)]
  have b1 : kr_bd (kr_m0 R t) 1 = kr_bd R 1 := by unfold kr_bd kr_m0; rw [kr_mg_ne _ _ _ _ (by decide) (by decide), kb_up_ne _ _ _ (by decide)]
  have J1 : ki_J N (kb_up C 1 0 t) (kb_up R 33 0 t) := kj_R (kj_C h (fun j h1 _ _ _ _ => kb_up_ne _ _ _ h1) (fun j hj => by rw [kb_up_ne _ _ _ (by omega)])) (fun k h1 _ _ => kb_up_ne _ _ _ (by omega))
  have L0 := cg_lose (t := t) (g := 0) (by decide) J1
  rw [b0, e0] at L0
  refine kb_go 20 [] ?_
  have t0 : (kb_up C 1 0 t) 1 0 = t := by rw [kb_up_at]; exact pk_us
  show kb_E (kb_en kz_Guest_loseAllDue [.inr (some 9), .inl ((kb_up C 1 0 t) 1 0)] (kb_up C 1 0 t)) _
  rw [t0]
  refine kb_E_then L0 (fun v M hq => ?_)
  obtain ⟨q1, q2, q3, q4⟩ := hq
  dsimp only at q1 q2 q3 q4
  subst q1
  have L1 := cg_lose (t := t) (g := 1) (by decide) q2
  have em : kr_mg (kb_up R 33 0 t) t 0 (kr_bd R 0) = kr_m0 R t := rfl
  rw [em, b1, e1] at L1
  have t1 : M 1 0 = t := by rw [q3 1 (by decide) (by decide) (by decide) (by decide)]; exact t0
  show kb_E (kb_en kz_Guest_loseAllDue [.inr (some 14), .inl (M 1 0)] M) _
  rw [t1]
  refine kb_E_then L1 (fun v2 M2 hq2 => ?_)
  obtain ⟨p1, p2, p3, p4⟩ := hq2
  dsimp only at p1 p2 p3 p4
  subst p1
  refine And.intro rfl ⟨by rw [← nI_add], p2, fun k h1 h2 h3 h4 h5 h6 h7 => ?_, ?_, ?_, ?_⟩
  · show M2 k = C k
    rw [p3 k h2 h3 h5 h7, q3 k h2 h3 h4 h6, kb_up_ne _ _ _ h1]
  · show M2 1 = _
    rw [p3 1 (by decide) (by decide) (by decide) (by decide), q3 1 (by decide) (by decide) (by decide) (by decide), kb_up_at]
  · show M2 9 = _
    rw [p3 9 (by decide) (by decide) (by decide) (by decide)]
    have q4 : M 9 = upd ((kb_up C 1 0 t) 9) 0 ((kb_up C 1 0 t) 9 0 + nI (kr_k R t 0 (kr_bd R 0))) := q4
    rw [q4, kb_up_ne _ _ _ (by decide)]
  · show M2 14 = _
    have p4 : M2 14 = upd (M 14) 0 (M 14 0 + nI (kr_k R t 1 (kr_bd R 1))) := p4
    have e : M 14 = C 14 := by rw [q3 14 (by decide) (by decide) (by decide) (by decide), kb_up_ne _ _ _ (by decide)]
    rw [p4, e]
/-- the earliest deadline: k on this side (2147483647: none), y on the other (-1: none) -/
def kx_ea (k : Nat) (y : Int32) : Prop := (k = 2147483647 ∧ y = -1) ∨ (k < 2 ^ 30 ∧ y = nI k)
theorem kx_min {a c : Nat} (ha : a < 2 ^ 31) (hc : c < 2 ^ 31) : (if nI c < nI a then nI c else nI a) = nI (min a c) := by
  by_cases h : c < a
  · rw [if_pos (nI_lt h (by omega)), Nat.min_eq_right (by omega)]
  · rw [if_neg (nI_nlt (by omega) (by omega)), Nat.min_eq_left (by omega)]
theorem kx_step {C R : kb_M} {g : Nat} (hG : ki_G C R g) {b a : Nat} {y0 : Int32} (ha : a = 2147483647 ∨ a < 2 ^ 30) (h0 : kx_ea a y0) (hd : ∀ t, t < kr_bd R g → R 42 (60 * g + t) = 3 → ∃ d, d < 2 ^ 30 ∧ R 43 (60 * g + t) = nI d) : ∀ n, n ≤ kr_bd R g → ∃ c, (c = 2147483647 ∨ c < 2 ^ 30) ∧ kg_e C (9 + 5 * g) (nI b) n = nI c ∧ kx_ea (min a c) (kr_e1 R g (nI b) y0 n) := by
  intro n
  induction n with
  | zero =>
    intro _
    refine ⟨2147483647, Or.inl rfl, rfl, ?_⟩
    rw [Nat.min_eq_left (by omega)]
    exact h0
  | succ n ih =>
    intro hn
    obtain ⟨c, c1, c2, c3⟩ := ih (by omega)
    obtain ⟨t1, t2, t3⟩ := hG.2.1 n (by omega)
    have s1 : kg_e C (9 + 5 * g) (nI b) (n + 1) = if C (12 + 5 * g) n = 3 ∧ C (10 + 5 * g) n = nI b ∧ C (13 + 5 * g) n < kg_e C (9 + 5 * g) (nI b) n then C (13 + 5 * g) n else kg_e C (9 + 5 * g) (nI b) n := by
      show (if C (9 + 5 * g + 3) n = 3 ∧ C (9 + 5 * g + 1) n = nI b ∧ C (9 + 5 * g + 4) n < kg_e C (9 + 5 * g) (nI b) n then C (9 + 5 * g + 4) n else kg_e C (9 + 5 * g) (nI b) n) = _
      rw [show 9 + 5 * g + 3 = 12 + 5 * g by omega, show 9 + 5 * g + 1 = 10 + 5 * g by omega, show 9 + 5 * g + 4 = 13 + 5 * g by omega]
    have s2 : kr_e1 R g (nI b) y0 (n + 1) = if R 42 (60 * g + n) = 3 ∧ R 41 (60 * g + n) = nI b ∧ (kr_e1 R g (nI b) y0 n < 0 ∨ R 43 (60 * g + n) < kr_e1 R g (nI b) y0 n) then R 43 (60 * g + n) else kr_e1 R g (nI b) y0 n := rfl
    by_cases h3 : R 42 (60 * g + n) = 3 ∧ R 41 (60 * g + n) = nI b
    · obtain ⟨d, d1, d2⟩ := hd n (by omega) h3.1
      have d3 := t3 h3.1
      rw [d2] at d3
      refine ⟨min c d, by omega, ?_, ?_⟩
      · rw [s1, t1, t2, h3.1, h3.2, d3, c2]
        by_cases hdc : d < c
        · rw [if_pos ⟨rfl, rfl, nI_lt hdc (by omega)⟩, Nat.min_eq_right (by omega)]
        · rw [if_neg (fun q => nI_nlt (by omega) (by omega) q.2.2), Nat.min_eq_left (by omega)]
      · rw [s2, d2]
        rcases c3 with ⟨m1, m2⟩ | ⟨m1, m2⟩
        · rw [if_pos ⟨h3.1, h3.2, Or.inl (by rw [m2]; decide)⟩]
          exact Or.inr ⟨by omega, by congr 1; omega⟩
        · rw [m2]
          by_cases hdm : d < min a c
          · rw [if_pos ⟨h3.1, h3.2, Or.inr (nI_lt hdm (by omega))⟩]
            exact Or.inr ⟨by omega, by congr 1; omega⟩
          · rw [if_neg (fun q => by
              rcases q.2.2 with q | q
              · exact nI_pos (by omega) q
              · exact nI_nlt (by omega) (by omega) q)]
            exact Or.inr ⟨by omega, by congr 1; omega⟩
    · refine ⟨c, c1, ?_, ?_⟩
      · rw [s1, t1, t2, if_neg (fun q => h3 ⟨q.1, q.2.1⟩)]
        exact c2
      · rw [s2, if_neg (fun q => h3 ⟨q.1, q.2.1⟩)]
        exact c3
/-- all deadlines are below 2 ^ 30 -/
def kr_dl (R : kb_M) : Prop := ∀ g t, g < 2 → t < kr_bd R g → R 42 (60 * g + t) = 3 → ∃ d, d < 2 ^ 30 ∧ R 43 (60 * g + t) = nI d
set_option maxRecDepth 100000 in
theorem ck_earliest {N : Nat} {C R : kb_M} (h : ki_J N C R) (hd : kr_dl R) {b : Nat} : kb_E (kb_en kz_Kernel_earliestDeadline [.inr (some 1), .inl (nI b)] C) (fun q => ∃ k, kx_ea k (kr_e R (nI b)) ∧ q = (some (.inl (nI k)), C)) := by
  have hR := h.1
  have G0 := h.2.2.2.2.1 0 (by decide)
  have G1 := h.2.2.2.2.1 1 (by decide)
  obtain ⟨c0, a1, a2, a3⟩ := kx_step G0 (b := b) (a := 2147483647) (y0 := -1) (Or.inl rfl) (Or.inl ⟨rfl, rfl⟩) (fun t ht h3 => hd 0 t (by decide) ht h3) (kr_bd R 0) (Nat.le_refl _)
  rw [Nat.min_eq_right (by omega)] at a3
  obtain ⟨c1, b1, b2, b3⟩ := kx_step G1 (b := b) a1 a3 (fun t ht h3 => hd 1 t (by decide) ht h3) (kr_bd R 1) (Nat.le_refl _)
  have E0 := cg_earliest (c := 9) (n := kr_bd R 0) (Or.inl rfl) (C := C) (G0.1.trans (hR.1 0 (by decide)).1) (hR.1 0 (by decide)).2 (nI b)
  have E1 := cg_earliest (c := 14) (n := kr_bd R 1) (Or.inr rfl) (C := C) (G1.1.trans (hR.1 1 (by decide)).1) (hR.1 1 (by decide)).2 (nI b)
  have a2 : kg_e C 9 (nI b) (kr_bd R 0) = nI c0 := a2
  have b2 : kg_e C 14 (nI b) (kr_bd R 1) = nI c1 := b2
  rw [a2] at E0
  rw [b2] at E1
  refine kb_go 20 [] ?_
  refine kb_E_to E0 ?_
  refine kb_E_to E1 ?_
  refine And.intro rfl ⟨min c0 c1, b3, ?_⟩
  rw [kx_min (by omega) (by omega)]
theorem kg_la_eq {C R : kb_M} {g : Nat} (hG : ki_G C R g) (b : Int32) : ∀ n, n ≤ kr_bd R g → kg_la C (9 + 5 * g) b n = kr_la R g b n := by
  intro n
  induction n with
  | zero => intro _; rfl
  | succ n ih =>
    intro hn
    obtain ⟨t1, t2, -⟩ := hG.2.1 n (by omega)
    unfold kg_la kr_la
    rw [show 9 + 5 * g + 3 = 12 + 5 * g by omega, show 9 + 5 * g + 1 = 10 + 5 * g by omega, t1, t2, ih (by omega)]
/-- what stays over a wish -/
def kx_wi (C D : kb_M) : Prop := ∀ k, k ≠ 12 → k ≠ 13 → k ≠ 17 → k ≠ 18 → D k = C k
set_option maxRecDepth 100000 in
theorem ck_askRicher {N : Nat} {C R : kb_M} (h : ki_J N C R) (hnow : C 1 0 = R 33 0) {b : Nat} (hb : b < 2) (hno : kr_e R (nI b) < 0) : kb_E (kb_en kz_Kernel_askRicherGuest [.inr (some 1), .inl (nI b)] C) (fun q => q.1 = none ∧ ki_J N q.2 (kr_wi R (nI b)) ∧ kx_wi C q.2) := by
  have hR := h.1
  have hN := h.2.2.2.1 b hb
  have n0 := hN 2 (by decide)
  have n1 := hN 3 (by decide)
  rw [show (2 : Nat) = 2 + 0 from rfl, kr_c_g (g := 0) (by decide)] at n0
  rw [show (3 : Nat) = 2 + 1 from rfl, kr_c_g (g := 1) (by decide)] at n1
  have l0 := kr_l_le R 0 (nI b) (kr_bd R 0)
  have l1 := kr_l_le R 1 (nI b) (kr_bd R 1)
  have hb0 := (hR.1 0 (by decide))
  have hb1 := (hR.1 1 (by decide))
  have c0 := cp_countHeldBy (kp_b hb) C (nI (2 + 0))
  have c1 := cp_countHeldBy (kp_b hb) C (nI (2 + 1))
  rw [show 3 + 3 * b + 1 = 4 + 3 * b by omega, n0] at c0
  rw [show 3 + 3 * b + 1 = 4 + 3 * b by omega, n1] at c1
  -- the ask itself
  have ask : ∀ g, g < 2 → g = kr_ri R (nI b) → ∀ x, kb_E (kb_en kz_Guest_askForLastOf [.inr (some (9 + 5 * g)), .inl (nI b), .inl x] C) (fun q => x = R 33 0 + 5 → q.1 = none ∧ ki_J N q.2 (kr_wi R (nI b)) ∧ kx_wi C q.2) := by
    intro g hg hri x
    have G := h.2.2.2.2.1 g hg
    have hbd := hR.1 g hg
    have A := cg_askForLast (c := 9 + 5 * g) (n := kr_bd R g) (by match g, hg with | 0, _ => exact Or.inl rfl | 1, _ => exact Or.inr rfl) (C := C) (G.1.trans hbd.1) hbd.2 (nI b) x
    refine kb_E_imp A (fun q hq hx => ?_)
    rw [hq, kg_la_eq G (nI b) _ (Nat.le_refl _)]
    have hw : kr_wi R (nI b) = match kr_la R g (nI b) (kr_bd R g) with
      | none => R
      | some t => kr_mk R (60 * g + t) := by unfold kr_wi; rw [if_pos hno, ← hri]; cases kr_la R g (nI b) (kr_bd R g) <;> rfl
    rw [hw]
    cases hl : kr_la R g (nI b) (kr_bd R g) with
    | none => exact ⟨rfl, h, fun k _ _ _ _ => rfl⟩
    | some t =>
      obtain ⟨t1, t2, t3⟩ := kr_la_lt hl
      refine ⟨rfl, ?_, fun k h1 h2 h3 h4 => ?_⟩
      · show ki_J N (kb_up (kb_up C (9 + 5 * g + 3) t 3) (9 + 5 * g + 4) t x) (kr_mk R (60 * g + t))
        rw [show 9 + 5 * g + 3 = 12 + 5 * g by omega, show 9 + 5 * g + 4 = 13 + 5 * g by omega, hx]
        exact ki_ask h hg t1 t2 (R 33 0 + 5)
      · show (kb_up (kb_up C (9 + 5 * g + 3) t 3) (9 + 5 * g + 4) t x) k = C k
        rw [kb_up_ne _ _ _ (by omega), kb_up_ne _ _ _ (by omega)]
  refine kb_go 40 [6] ?_
  refine kb_E_to (ck_poolOf C hb) ?_
  have both : ∀ c, c = 3 + 3 * b → kb_E (kz_Kernel_askRicherGuest, 6, [some (.inr (some 1)), some (.inl (nI b)), some (.inr (some c)), none, none, none], [], C) (fun q => q.1 = none ∧ ki_J N q.2 (kr_wi R (nI b)) ∧ kx_wi C q.2) := by
    intro c hc
    have fin0 := ask 0 (by decide)
    have fin1 := ask 1 (by decide)
    have hx : C 1 0 + Int32.ofInt 5 = R 33 0 + 5 := by rw [hnow]; rfl
    match b, hb with
    | 0, _ =>
      subst hc
      refine kb_go 40 [] ?_
      refine kb_E_to c0 ?_
      refine kb_E_to c1 ?_
      refine And.intro (fun h2 => ?_) (fun h2 => ?_)
      · have h2 := of_decide_eq_true h2
        rw [nI_ltI (by omega) (by omega)] at h2
        refine kb_E_imp (fin1 (by unfold kr_ri; rw [if_pos (by omega)]) _) (fun q hq => ?_)
        obtain ⟨q1, q2, q3⟩ := hq hx
        obtain ⟨v, M⟩ := q
        dsimp only at q1
        subst q1
        exact And.intro rfl ⟨rfl, q2, q3⟩
      · have h2 := of_decide_eq_false h2
        rw [nI_ltI (by omega) (by omega)] at h2
        refine kb_E_imp (fin0 (by unfold kr_ri; rw [if_neg (by omega)]) _) (fun q hq => ?_)
        obtain ⟨q1, q2, q3⟩ := hq hx
        obtain ⟨v, M⟩ := q
        dsimp only at q1
        subst q1
        exact And.intro rfl ⟨rfl, q2, q3⟩
    | 1, _ =>
      subst hc
      refine kb_go 40 [] ?_
      refine kb_E_to c0 ?_
      refine kb_E_to c1 ?_
      refine And.intro (fun h2 => ?_) (fun h2 => ?_)
      · have h2 := of_decide_eq_true h2
        rw [nI_ltI (by omega) (by omega)] at h2
        refine kb_E_imp (fin1 (by unfold kr_ri; rw [if_pos (by omega)]) _) (fun q hq => ?_)
        obtain ⟨q1, q2, q3⟩ := hq hx
        obtain ⟨v, M⟩ := q
        dsimp only at q1
        subst q1
        exact And.intro rfl ⟨rfl, q2, q3⟩
      · have h2 := of_decide_eq_false h2
        rw [nI_ltI (by omega) (by omega)] at h2
        refine kb_E_imp (fin0 (by unfold kr_ri; rw [if_neg (by omega)]) _) (fun q hq => ?_)
        obtain ⟨q1, q2, q3⟩ := hq hx
        obtain ⟨v, M⟩ := q
        dsimp only at q1
        subst q1
        exact And.intro rfl ⟨rfl, q2, q3⟩
  exact both _ rfl
/-- nothing free, on either side -/
theorem kx_free {N : Nat} {C R : kb_M} (h : ki_J N C R) {b : Nat} (hb : b < 2) : kr_f R b = nI (kp_c (C (4 + 3 * b)) (-1) (12 + 12 * b)) := by
  have hN := h.2.2.2.1 b hb
  have hs := kp_c_sum (12 + 12 * b) (h.2.2.1 b hb)
  have n0 := hN 0 (by decide)
  have n1 := hN 1 (by decide)
  have n2 := hN 2 (by decide)
  have n3 := hN 3 (by decide)
  unfold kr_f
  rw [← n0, ← n1, ← n2, ← n3, pk_sub (by omega), pk_sub (by omega), pk_sub (by omega), pk_sub (by omega)]
  congr 1
  omega
theorem kp_c_0 {f : Nat → Int32} {e : Int32} : ∀ n, (∀ r, r < n → f r ≠ e) → kp_c f e n = 0 := by
  intro n
  induction n with
  | zero => intro _; rfl
  | succ n ih =>
    intro h
    unfold kp_c
    rw [ih (fun r hr => h r (by omega)), if_neg (h n (by omega))]
theorem kx_none {N : Nat} {C R : kb_M} (h : ki_J N C R) {b : Nat} (hb : b < 2) (hn : ∀ r, r < 12 + 12 * b → C (4 + 3 * b) r ≠ -1) : kr_f R b = 0 := by
  rw [kx_free h hb, kp_c_0 _ hn]
  rfl
theorem kx_some {N : Nat} {C R : kb_M} (h : ki_J N C R) {b r : Nat} (hb : b < 2) (hr : r < 12 + 12 * b) (hc : C (4 + 3 * b) r = -1) : kr_f R b ≠ 0 := by
  have h1 := kp_c_pos (f := C (4 + 3 * b)) (e := -1) (12 + 12 * b) hr hc
  have h2 := kp_c_le (C (4 + 3 * b)) (-1) (12 + 12 * b)
  rw [kx_free h hb]
  exact nI_ne0 h1 (by omega)
/-- a resource comes to e -/
def kx_bn (C : kb_M) (b r : Nat) (e : Int32) : kb_M := kb_ro (kb_up C (4 + 3 * b) r e) (5 + 3 * b) (fun j => if j / 4 = r then 0 else C (5 + 3 * b) j)
theorem ck_free {C : kb_M} {b : Nat} (hb : b < 2) (e : Int32) : kb_E (kb_en kz_Pool_bindFreeOne [.inr (some (3 + 3 * b)), .inl e] C) (fun q => (∃ r, r < 12 + 12 * b ∧ C (4 + 3 * b) r = -1 ∧ q = (some (.inl (nI r)), kx_bn C b r e)) ∨ ((∀ r, r < 12 + 12 * b → C (4 + 3 * b) r ≠ -1) ∧ q = (some (.inl (-1)), C))) := by
  have h := cp_bindFreeOne (kp_b hb) C e
  rw [show 3 + 3 * b + 1 = 4 + 3 * b by omega, show 3 + 3 * b + 2 = 5 + 3 * b by omega] at h
  exact h
theorem ck_share {N : Nat} {C R : kb_M} (h : ki_J N C R) (hK : ki_K C R) {b e : Nat} (hb : b < 2) (he : e < 4) : kb_E (kb_en kz_Pool_hasFullShare [.inr (some (3 + 3 * b)), .inl (nI e)] C) (fun q => q = (some (.inl (if 3 + 3 * b ≤ kr_c R e b then 1 else 0)), C)) := by
  have hs : C (3 + 3 * b) 0 = nI (3 + 3 * b) := by
    match b, hb with
    | 0, _ => exact hK.2.1
    | 1, _ => exact hK.2.2.1
  have q := cp_hasFullShare (kp_b hb) C (nI e) hs (by omega)
  rw [show 3 + 3 * b + 1 = 4 + 3 * b by omega, h.2.2.2.1 b hb e he] at q
  exact q
set_option maxRecDepth 100000 in
/-- a claim of e for kind b -/
theorem ck_claim {N : Nat} {C R : kb_M} (h : ki_J N C R) (hK : ki_K C R) (hd : kr_dl R) {b e : Nat} (hb : b < 2) (he : e < 4) : kb_E (kb_en kz_Kernel_claim [.inr (some 1), .inl (nI e), .inl (nI b)] C) (fun q => (∃ r, r < 12 + 12 * b ∧ C (4 + 3 * b) r = -1 ∧ q = (some (.inl (nI r)), kx_bn C b r (nI e))) ∨ (kr_f R b = 0 ∧ 3 + 3 * b ≤ kr_c R e b ∧ q = (some (.inl (-2)), C)) ∨ (kr_f R b = 0 ∧ kr_c R e b < 3 + 3 * b ∧ q.1 = some (.inl (-3)) ∧ ki_J N q.2 (kr_wi R (nI b)) ∧ kx_wi C q.2)) := by
  have key : ∀ c, c = 3 + 3 * b → kb_E (kz_Kernel_claim, 6, [some (.inr (some 1)), some (.inl (nI e)), some (.inl (nI b)), some (.inr (some c)), none], [], C) (fun q => (∃ r, r < 12 + 12 * b ∧ C (4 + 3 * b) r = -1 ∧ q = (some (.inl (nI r)), kx_bn C b r (nI e))) ∨ (kr_f R b = 0 ∧ 3 + 3 * b ≤ kr_c R e b ∧ q = (some (.inl (-2)), C)) ∨ (kr_f R b = 0 ∧ kr_c R e b < 3 + 3 * b ∧ q.1 = some (.inl (-3)) ∧ ki_J N q.2 (kr_wi R (nI b)) ∧ kx_wi C q.2)) := by
    intro c hc
    have F := ck_free (C := C) hb (nI e)
    have S := ck_share h hK hb he
    have E := ck_earliest h hd (b := b)
    have A := fun hno => ck_askRicher h hK.1 hb hno
    have part2 : (∀ r, r < 12 + 12 * b → C (4 + 3 * b) r ≠ -1) → kb_E (kz_Kernel_claim, 22, [some (.inr (some 1)), some (.inl (nI e)), some (.inl (nI b)), some (.inr (some c)), some (.inl (-1))], [], C) (fun q => (∃ r, r < 12 + 12 * b ∧ C (4 + 3 * b) r = -1 ∧ q = (some (.inl (nI r)), kx_bn C b r (nI e))) ∨ (kr_f R b = 0 ∧ 3 + 3 * b ≤ kr_c R e b ∧ q = (some (.inl (-2)), C)) ∨ (kr_f R b = 0 ∧ kr_c R e b < 3 + 3 * b ∧ q.1 = some (.inl (-3)) ∧ ki_J N q.2 (kr_wi R (nI b)) ∧ kx_wi C q.2)) := by
      intro hn
      have hf := kx_none h hb hn
      have part3 : kr_c R e b < 3 + 3 * b → kb_E (kz_Kernel_claim, 33, [some (.inr (some 1)), some (.inl (nI e)), some (.inl (nI b)), some (.inr (some c)), some (.inl (-1))], [], C) (fun q => (∃ r, r < 12 + 12 * b ∧ C (4 + 3 * b) r = -1 ∧ q = (some (.inl (nI r)), kx_bn C b r (nI e))) ∨ (kr_f R b = 0 ∧ 3 + 3 * b ≤ kr_c R e b ∧ q = (some (.inl (-2)), C)) ∨ (kr_f R b = 0 ∧ kr_c R e b < 3 + 3 * b ∧ q.1 = some (.inl (-3)) ∧ ki_J N q.2 (kr_wi R (nI b)) ∧ kx_wi C q.2)) := by
        intro hsh
        refine kb_go 40 [] ?_
        refine kb_E_then E (fun v M hq => ?_)
        obtain ⟨k, hk, e1⟩ := hq
        cases e1
        refine And.intro (fun h2 => ?_) (fun h2 => ?_)
        · have h2 : ¬ nI k = nI 2147483647 := of_decide_eq_true h2
          rcases hk with ⟨k1, -⟩ | ⟨k1, k2⟩
          · exact absurd (by rw [k1]) h2
          · refine And.intro rfl (Or.inr (Or.inr ⟨hf, hsh, rfl, ?_, fun _ _ _ _ _ => rfl⟩))
            have hw : kr_wi R (nI b) = R := by
              unfold kr_wi
              rw [if_neg (by rw [k2]; exact nI_pos (by omega))]
            rw [hw]
            exact h
        · have h2 : nI k = nI 2147483647 := Classical.not_not.mp (of_decide_eq_false h2)
          rcases hk with ⟨-, k2⟩ | ⟨k1, -⟩
          · refine kb_E_then (A (by rw [k2]; decide)) (fun v M hq => ?_)
            obtain ⟨q1, q2, q3⟩ := hq
            dsimp only at q1 q2 q3
            subst q1
            exact And.intro rfl (Or.inr (Or.inr ⟨hf, hsh, rfl, q2, q3⟩))
          · rw [nI_eq (by omega) (by omega)] at h2
            omega
      match b, hb with
      | 0, _ =>
        subst hc
        refine kb_go 40 [33] ?_
        refine kb_E_to S ?_
        by_cases hsh : 3 + 3 * 0 ≤ kr_c R e 0
        · rw [if_pos hsh]
          refine And.intro (fun h => absurd h (by decide)) (fun _ => ?_)
          exact And.intro rfl (Or.inr (Or.inl ⟨hf, hsh, rfl⟩))
        · rw [if_neg hsh]
          exact And.intro (fun _ => part3 (by omega)) (fun h => absurd h (by decide))
      | 1, _ =>
        subst hc
        refine kb_go 40 [33] ?_
        refine kb_E_to S ?_
        by_cases hsh : 3 + 3 * 1 ≤ kr_c R e 1
        · rw [if_pos hsh]
          refine And.intro (fun h => absurd h (by decide)) (fun _ => ?_)
          exact And.intro rfl (Or.inr (Or.inl ⟨hf, hsh, rfl⟩))
        · rw [if_neg hsh]
          exact And.intro (fun _ => part3 (by omega)) (fun h => absurd h (by decide))
    match b, hb with
    | 0, _ =>
      subst hc
      refine kb_go 40 [22] ?_
      refine kb_E_then F (fun v M hq => ?_)
      rcases hq with ⟨r, r1, r2, e1⟩ | ⟨hn, e1⟩
      · cases e1
        refine And.intro (fun h2 => absurd (of_decide_eq_true h2) (nI_m1 (by omega))) (fun _ => ?_)
        exact And.intro rfl (Or.inl ⟨r, r1, r2, rfl⟩)
      · cases e1
        exact And.intro (fun _ => part2 hn) (fun h => absurd h (by decide))
    | 1, _ =>
      subst hc
      refine kb_go 40 [22] ?_
      refine kb_E_then F (fun v M hq => ?_)
      rcases hq with ⟨r, r1, r2, e1⟩ | ⟨hn, e1⟩
      · cases e1
        refine And.intro (fun h2 => absurd (of_decide_eq_true h2) (nI_m1 (by omega))) (fun _ => ?_)
        exact And.intro rfl (Or.inl ⟨r, r1, r2, rfl⟩)
      · cases e1
        exact And.intro (fun _ => part2 hn) (fun h => absurd h (by decide))
  refine kb_go 40 [6] ?_
  refine kb_E_to (ck_poolOf C hb) ?_
  exact key _ rfl
