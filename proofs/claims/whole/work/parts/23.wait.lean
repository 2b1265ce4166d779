/-! an application that must wait gets what it waits for -/
theorem kr_e1_ex {R : kb_M} {g : Nat} {b y : Int32} : ∀ n, kr_e1 R g b y n = y ∨ ∃ t, t < n ∧ R 42 (60 * g + t) = 3 ∧ R 41 (60 * g + t) = b ∧ R 43 (60 * g + t) = kr_e1 R g b y n := by
  intro n
  induction n with
  | zero => exact Or.inl rfl
  | succ n ih =>
    unfold kr_e1
    by_cases hc : R 42 (60 * g + n) = 3 ∧ R 41 (60 * g + n) = b ∧ (kr_e1 R g b y n < 0 ∨ R 43 (60 * g + n) < kr_e1 R g b y n)
    · rw [if_pos hc]
      exact Or.inr ⟨n, by omega, hc.1, hc.2.1, rfl⟩
    · rw [if_neg hc]
      rcases ih with h | ⟨t, h1, h2, h3, h4⟩
      · exact Or.inl h
      · exact Or.inr ⟨t, by omega, h2, h3, h4⟩
theorem kr_e1_no {R : kb_M} {g : Nat} {b y : Int32} : ∀ n, (∀ t, t < n → R 42 (60 * g + t) = 3 → ¬ R 43 (60 * g + t) < 0) → kr_e1 R g b y n < 0 → y < 0 ∧ ∀ t, t < n → ¬ (R 42 (60 * g + t) = 3 ∧ R 41 (60 * g + t) = b) := by
  intro n
  induction n with
  | zero => intro _ h; exact ⟨h, fun t ht => by omega⟩
  | succ n ih =>
    intro hd h
    unfold kr_e1 at h
    by_cases hc : R 42 (60 * g + n) = 3 ∧ R 41 (60 * g + n) = b ∧ (kr_e1 R g b y n < 0 ∨ R 43 (60 * g + n) < kr_e1 R g b y n)
    · rw [if_pos hc] at h
      exact absurd h (hd n (by omega) hc.1)
    · rw [if_neg hc] at h
      obtain ⟨h1, h2⟩ := ih (fun t ht => hd t (by omega)) h
      refine ⟨h1, fun t ht q => ?_⟩
      by_cases htn : t = n
      · subst htn
        exact hc ⟨q.1, q.2, Or.inl h⟩
      · exact h2 t (by omega) q
theorem kr_l_mono {R S : kb_M} {g : Nat} {b : Int32} : ∀ n, (∀ t, t < n → S 41 (60 * g + t) = R 41 (60 * g + t) ∧ (2 ≤ S 42 (60 * g + t) → 2 ≤ R 42 (60 * g + t))) → kr_l S g b n ≤ kr_l R g b n := by
  intro n
  induction n with
  | zero => intro _; exact Nat.le_refl _
  | succ n ih =>
    intro h
    have h1 := ih (fun t ht => h t (by omega))
    obtain ⟨h2, h3⟩ := h n (by omega)
    unfold kr_l
    rw [h2]
    by_cases hc : 2 ≤ S 42 (60 * g + n) ∧ R 41 (60 * g + n) = b
    · rw [if_pos hc, if_pos ⟨h3 hc.1, hc.2⟩]; omega
    · rw [if_neg hc]; omega
theorem kr_l_less {R S : kb_M} {g t : Nat} {b : Int32} : ∀ n, t < n → (∀ u, u < n → S 41 (60 * g + u) = R 41 (60 * g + u) ∧ (2 ≤ S 42 (60 * g + u) → 2 ≤ R 42 (60 * g + u))) → 2 ≤ R 42 (60 * g + t) → R 41 (60 * g + t) = b → ¬ 2 ≤ S 42 (60 * g + t) → kr_l S g b n < kr_l R g b n := by
  intro n
  induction n with
  | zero => intro h; omega
  | succ n ih =>
    intro ht h hl hk hs
    by_cases htn : t = n
    · subst htn
      have h1 := kr_l_mono (R := R) (S := S) (g := g) (b := b) t (fun u hu => h u (by omega))
      unfold kr_l
      rw [if_neg (fun q => hs q.1), if_pos ⟨hl, hk⟩]
      omega
    · have h1 := ih (by omega) (fun u hu => h u (by omega)) hl hk hs
      obtain ⟨h2, h3⟩ := h n (by omega)
      unfold kr_l
      rw [h2]
      by_cases hc : 2 ≤ S 42 (60 * g + n) ∧ R 41 (60 * g + n) = b
      · rw [if_pos hc, if_pos ⟨h3 hc.1, hc.2⟩]; omega
      · rw [if_neg hc]; omega
theorem kr_l_pos {R : kb_M} {g : Nat} {b : Int32} : ∀ n, 0 < kr_l R g b n → ∃ t, t < n ∧ 2 ≤ R 42 (60 * g + t) ∧ R 41 (60 * g + t) = b := by
  intro n
  induction n with
  | zero => intro h; exact absurd h (by unfold kr_l; omega)
  | succ n ih =>
    intro h
    unfold kr_l at h
    by_cases hc : 2 ≤ R 42 (60 * g + n) ∧ R 41 (60 * g + n) = b
    · exact ⟨n, by omega, hc⟩
    · rw [if_neg hc] at h
      obtain ⟨t, h1, h2⟩ := ih (by omega)
      exact ⟨t, by omega, h2⟩
theorem kr_la_some {R : kb_M} {g t : Nat} {b : Int32} : ∀ n, t < n → R 42 (60 * g + t) = 2 → R 41 (60 * g + t) = b → ∃ u, kr_la R g b n = some u := by
  intro n
  induction n with
  | zero => intro h; omega
  | succ n ih =>
    intro ht h1 h2
    unfold kr_la
    by_cases hc : R 42 (60 * g + n) = 2 ∧ R 41 (60 * g + n) = b
    · rw [if_pos hc]; exact ⟨n, rfl⟩
    · rw [if_neg hc]
      refine ih ?_ h1 h2
      by_cases htn : t = n
      · subst htn; exact absurd ⟨h1, h2⟩ hc
      · omega
/-- all that is counted adds up -/
theorem kx_all {N : Nat} {C R : kb_M} (h : ki_J N C R) {b : Nat} (hb : b < 2) (hn : ∀ r, r < 12 + 12 * b → C (4 + 3 * b) r ≠ -1) : kr_c R 0 b + kr_c R 1 b + kr_l R 0 (nI b) (kr_bd R 0) + kr_l R 1 (nI b) (kr_bd R 1) = 12 + 12 * b := by
  have hN := h.2.2.2.1 b hb
  have hs := kp_c_sum (12 + 12 * b) (h.2.2.1 b hb)
  have n0 := hN 0 (by decide)
  have n1 := hN 1 (by decide)
  have n2 := hN (2 + 0) (by decide)
  have n3 := hN (2 + 1) (by decide)
  rw [kr_c_g (g := 0) (by decide)] at n2
  rw [kr_c_g (g := 1) (by decide)] at n3
  rw [kp_c_0 _ hn] at hs
  have e2 : kp_c (C (4 + 3 * b)) (nI 2) (12 + 12 * b) = kp_c (C (4 + 3 * b)) (nI (2 + 0)) (12 + 12 * b) := rfl
  have e3 : kp_c (C (4 + 3 * b)) (nI 3) (12 + 12 * b) = kp_c (C (4 + 3 * b)) (nI (2 + 1)) (12 + 12 * b) := rfl
  omega
theorem kx_share {N : Nat} {C R : kb_M} (h : ki_J N C R) {a b : Nat} (ha : a < 2) (hb : b < 2) : kr_c R a b ≤ 3 + 3 * b := by
  unfold kr_c
  rw [if_pos ha]
  match b, hb with
  | 0, _ => rw [if_pos rfl]; exact (h.1.2.2.1 a ha).2
  | 1, _ => rw [if_neg (by decide)]; exact (h.2.2.2.2.2 a ha).1.2
/-- after a wish something is asked for -/
theorem kx_asked {N B : Nat} {C D R : kb_M} (h : ki_Z N B C R) (hB : B + 5 < 2 ^ 30) {a b : Nat} (ha : a < 2) (hb : b < 2) (hsh : kr_c R a b < 3 + 3 * b) (hn : ∀ r, r < 12 + 12 * b → C (4 + 3 * b) r ≠ -1) : ∃ g t d, d < 2 ^ 30 ∧ g < 2 ∧ t < kr_bd (kr_wi R (nI b)) g ∧ (kr_wi R (nI b)) 42 (60 * g + t) = 3 ∧ (kr_wi R (nI b)) 41 (60 * g + t) = nI b ∧ (kr_wi R (nI b)) 43 (60 * g + t) = nI d ∧ kr_e (kr_wi R (nI b)) (nI b) = nI d := by
  have hJ := h.1
  have hU := ku_wi h.2.1 (nI b)
  obtain ⟨n, n1, n2, n3⟩ := hU
  have hR' := kr_wi_ok hJ.1 (nI b)
  have dl : ∀ g t, g < 2 → t < kr_bd (kr_wi R (nI b)) g → (kr_wi R (nI b)) 42 (60 * g + t) = 3 → ¬ (kr_wi R (nI b)) 43 (60 * g + t) < 0 := by
    intro g t hg ht hs
    obtain ⟨d, d1, d2, d3⟩ := n3 g t hg ht hs
    rw [d1]
    exact nI_pos (by omega)
  -- it is not below 0
  have hpos : ¬ kr_e (kr_wi R (nI b)) (nI b) < 0 := by
    intro hneg
    have q1 := kr_e1_no (kr_bd (kr_wi R (nI b)) 1) (fun t ht hs => dl 1 t (by decide) ht hs) hneg
    have q0 := kr_e1_no (kr_bd (kr_wi R (nI b)) 0) (fun t ht hs => dl 0 t (by decide) ht hs) q1.1
    have none_ : ∀ g t, g < 2 → t < kr_bd (kr_wi R (nI b)) g → ¬ ((kr_wi R (nI b)) 42 (60 * g + t) = 3 ∧ (kr_wi R (nI b)) 41 (60 * g + t) = nI b) := by
      intro g t hg ht
      match g, hg with
      | 0, _ => exact q0.2 t ht
      | 1, _ => exact q1.2 t ht
    have hbd : ∀ g, kr_bd (kr_wi R (nI b)) g = kr_bd R g := fun g => by unfold kr_bd; rw [kr_wi_ne R _ (by decide) (by decide)]
    have hall := kx_all hJ hb hn
    have s0 := kx_share hJ (a := 0) (by decide) hb
    have s1 := kx_share hJ (a := 1) (by decide) hb
    have hri : kr_ri R (nI b) < 2 := by unfold kr_ri; split <;> omega
    have hl : 0 < kr_l R (kr_ri R (nI b)) (nI b) (kr_bd R (kr_ri R (nI b))) := by
      have hsum : 0 < kr_l R 0 (nI b) (kr_bd R 0) + kr_l R 1 (nI b) (kr_bd R 1) := by
        have : a = 0 ∨ a = 1 := by omega
        rcases this with rfl | rfl <;> omega
      unfold kr_ri
      by_cases hc : kr_l R 0 (nI b) (kr_bd R 0) < kr_l R 1 (nI b) (kr_bd R 1)
      · rw [if_pos hc]; omega
      · rw [if_neg hc]; omega
    by_cases he : kr_e R (nI b) < 0
    · -- a ticket was asked for by the wish
      obtain ⟨t, t1, t2, t3⟩ := kr_l_pos _ hl
      obtain ⟨-, -, n3'⟩ := h.2.1
      have dl' : ∀ g t, g < 2 → t < kr_bd R g → R 42 (60 * g + t) = 3 → ¬ R 43 (60 * g + t) < 0 := by
        obtain ⟨m, m1, m2, m3⟩ := h.2.1
        intro g t hg ht hs
        obtain ⟨d, d1, d2, d3⟩ := m3 g t hg ht hs
        rw [d1]
        exact nI_pos (by omega)
      have p1 := kr_e1_no (kr_bd R 1) (fun t ht hs => dl' 1 t (by decide) ht hs) he
      have p0 := kr_e1_no (kr_bd R 0) (fun t ht hs => dl' 0 t (by decide) ht hs) p1.1
      have hle := (hJ.1.1 _ hri).2
      have h2 : R 42 (60 * kr_ri R (nI b) + t) = 2 := by
        obtain ⟨s, s1, s2⟩ := hJ.2.1 (60 * kr_ri R (nI b) + t) (by omega)
        rw [s2, kr_2 (by omega)] at t2
        have : s ≠ 3 := by
          intro q
          have h3 : R 42 (60 * kr_ri R (nI b) + t) = 3 := by rw [s2, q]; rfl
          have hc : kr_ri R (nI b) = 0 ∨ kr_ri R (nI b) = 1 := by omega
          rcases hc with hc | hc
          · rw [hc] at h3 t3 t1; exact p0.2 t t1 ⟨h3, t3⟩
          · rw [hc] at h3 t3 t1; exact p1.2 t t1 ⟨h3, t3⟩
        have : s = 2 := by omega
        rw [s2, this]; rfl
      obtain ⟨u, hu⟩ := kr_la_some (kr_bd R (kr_ri R (nI b))) t1 h2 t3
      have hw : kr_wi R (nI b) = kr_mk R (60 * kr_ri R (nI b) + u) := by unfold kr_wi; rw [if_pos he, hu]
      obtain ⟨u1, u2, u3⟩ := kr_la_lt hu
      refine none_ (kr_ri R (nI b)) u hri (by rw [hbd]; exact u1) ⟨?_, ?_⟩
      · rw [hw]; unfold kr_mk; rw [kb_up_ne _ _ _ (by decide), kb_up_at]; exact pk_us
      · rw [hw]; unfold kr_mk; rw [kb_up_ne _ _ _ (by decide), kb_up_ne _ _ _ (by decide)]; exact u3
    · have hw : kr_wi R (nI b) = R := by unfold kr_wi; rw [if_neg he]
      rw [hw] at hneg
      exact he hneg
  have hx := kr_e1_ex (R := kr_wi R (nI b)) (g := 1) (b := nI b) (y := kr_e1 (kr_wi R (nI b)) 0 (nI b) (-1) (kr_bd (kr_wi R (nI b)) 0)) (kr_bd (kr_wi R (nI b)) 1)
  have ee : kr_e1 (kr_wi R (nI b)) 1 (nI b) (kr_e1 (kr_wi R (nI b)) 0 (nI b) (-1) (kr_bd (kr_wi R (nI b)) 0)) (kr_bd (kr_wi R (nI b)) 1) = kr_e (kr_wi R (nI b)) (nI b) := rfl
  rw [ee] at hx
  rcases hx with h1 | ⟨t, t1, t2, t3, t4⟩
  · rcases kr_e1_ex (R := kr_wi R (nI b)) (g := 0) (b := nI b) (y := -1) (kr_bd (kr_wi R (nI b)) 0) with h0 | ⟨t, t1, t2, t3, t4⟩
    · rw [h0] at h1
      rw [h1] at hpos
      exact absurd (by decide) hpos
    · obtain ⟨d, d1, d2, d3⟩ := n3 0 t (by decide) t1 t2
      exact ⟨0, t, d, by omega, by decide, t1, t2, t3, d1, by rw [h1, ← t4]; exact d1⟩
  · obtain ⟨d, d1, d2, d3⟩ := n3 1 t (by decide) t1 t2
    exact ⟨1, t, d, by omega, by decide, t1, t2, t3, d1, by rw [← t4]; exact d1⟩
/-- when the time has moved there, something of the kind is free -/
theorem kx_freed {N : Nat} {D E S : kb_M} (hS : ki_J N E S) {b : Nat} (hb : b < 2) (hE : ∀ r, r < 12 + 12 * b → E (4 + 3 * b) r ≠ -1) {t : Int32} {g u : Nat} (hg : g < 2) (hu : u < kr_bd S g) (h3 : S 42 (60 * g + u) = 3) (hk : S 41 (60 * g + u) = nI b) (hd : S 43 (60 * g + u) ≤ t) (hD : ki_J N D (kr_mv S t)) (hn : ∀ r, r < 12 + 12 * b → D (4 + 3 * b) r ≠ -1) : False := by
  have a1 := kx_all hS hb hE
  have a2 := kx_all hD hb hn
  have e35 : kr_mv S t 35 = S 35 := kr_mv_ne S t (by decide) (by decide) (by decide)
  have e38 : kr_mv S t 38 = S 38 := kr_mv_ne S t (by decide) (by decide) (by decide)
  have e39 : kr_mv S t 39 = S 39 := kr_mv_ne S t (by decide) (by decide) (by decide)
  have e41 : kr_mv S t 41 = S 41 := kr_mv_ne S t (by decide) (by decide) (by decide)
  have hbd : ∀ g, kr_bd (kr_mv S t) g = kr_bd S g := fun g => by unfold kr_bd; rw [e39]
  rw [kr_c_app (R := S) e35 e38 (e := 0) (by decide), kr_c_app (R := S) e35 e38 (e := 1) (by decide), hbd, hbd] at a2
  have live : ∀ g u, g < 2 → u < kr_bd S g → (kr_mv S t) 41 (60 * g + u) = S 41 (60 * g + u) ∧ (2 ≤ (kr_mv S t) 42 (60 * g + u) → 2 ≤ S 42 (60 * g + u)) := by
    intro g u hg hu
    refine ⟨by rw [e41], fun q => ?_⟩
    rw [kr_mv_42 hS.1 t hg hu] at q
    by_cases hc : S 42 (60 * g + u) = 3 ∧ S 43 (60 * g + u) ≤ t
    · rw [hc.1]; decide
    · rw [if_neg hc] at q; exact q
  have m0 := kr_l_mono (R := S) (S := kr_mv S t) (g := 0) (b := nI b) (kr_bd S 0) (fun u hu => live 0 u (by decide) hu)
  have m1 := kr_l_mono (R := S) (S := kr_mv S t) (g := 1) (b := nI b) (kr_bd S 1) (fun u hu => live 1 u (by decide) hu)
  have dead : ¬ (2 : Int32) ≤ (kr_mv S t) 42 (60 * g + u) := by
    rw [kr_mv_42 hS.1 t hg hu, if_pos ⟨h3, hd⟩]
    decide
  have l := kr_l_less (R := S) (S := kr_mv S t) (g := g) (b := nI b) (kr_bd S g) hu (fun v hv => live g v hg hv) (by rw [h3]; decide) hk dead
  match g, hg with
  | 0, _ => omega
  | 1, _ => omega
