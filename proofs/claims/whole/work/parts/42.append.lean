/-! append: the walks -/
set_option maxRecDepth 100000 in
theorem cq_room0 {a f n : Nat} (ha : a < 2) (hf : f < 6) (C : kb_M) (hl : C (20 + 7 * a) f = nI n) (hn : n < 24) (h4 : n % 4 ≠ 0) : kb_E (kb_en kz_App_makeRoomForWord [.inr (some (19 + 7 * a)), .inl (nI f)] C) (fun q => q = (some (.inl 1), C)) := by
  have hcl : (nI f).toNatClampNeg = f := nI_clamp (by omega)
  have er : C (20 + 7 * a) (nI f).toNatClampNeg - C (20 + 7 * a) (nI f).toNatClampNeg / Int32.ofInt 4 * Int32.ofInt 4 = nI (n % 4) := by rw [hcl, hl, ko_rem hn]
  have e0 : C (20 + 7 * a) (nI f).toNatClampNeg - C (20 + 7 * a) (nI f).toNatClampNeg / Int32.ofInt 4 * Int32.ofInt 4 ≠ 0 := by
    rw [er]
    exact nI_ne (a := n % 4) (b := 0) (by omega) (by omega) h4
  have ha01 : a = 0 ∨ a = 1 := by omega
  rcases ha01 with rfl | rfl
  all_goals
    refine kb_go 60 [] ?_
    refine And.intro (kb_in_nI (by omega) (by omega)) (And.intro rfl ?_)
    exact And.intro (fun h => absurd (of_decide_eq_true h) e0) (fun _ => And.intro rfl rfl)
set_option maxRecDepth 100000 in
theorem cq_room1 {a f n : Nat} (ha : a < 2) (hf : f < 6) (C : kb_M) (hl : C (20 + 7 * a) f = nI n) (hn : n ≤ 24) (h4 : n % 4 = 0) (Sh : n < 24 → kb_E (kb_en kz_Pool_hasFullShare [.inr (some 6), .inl (C (19 + 7 * a) 3)] C) (fun q => q = (some (.inl 1), C))) : kb_E (kb_en kz_App_makeRoomForWord [.inr (some (19 + 7 * a)), .inl (nI f)] C) (fun q => q = (some (.inl 0), C)) := by
  have hcl : (nI f).toNatClampNeg = f := nI_clamp (by omega)
  have ed : C (20 + 7 * a) (nI f).toNatClampNeg / Int32.ofInt 4 = nI (n / 4) := by rw [hcl, hl, show Int32.ofInt 4 = nI 4 from rfl, pk_div (by omega) (by omega) (by omega)]
  have er : C (20 + 7 * a) (nI f).toNatClampNeg - C (20 + 7 * a) (nI f).toNatClampNeg / Int32.ofInt 4 * Int32.ofInt 4 = 0 := by
    rw [hcl, hl, show Int32.ofInt 4 = nI 4 from rfl, pk_rem (by omega) (by omega) (by omega), h4]
    rfl
  have fin : ¬ (Int8.ofInt 6).toInt32 ≤ C (20 + 7 * a) (nI f).toNatClampNeg / Int32.ofInt 4 → n < 24 := by
    intro q
    rw [ed, show (Int8.ofInt 6).toInt32 = nI 6 from rfl] at q
    by_cases h : n < 24
    · exact h
    · exact absurd (nI_le (by omega) (by omega)) q
  have ha01 : a = 0 ∨ a = 1 := by omega
  rcases ha01 with rfl | rfl
  all_goals
    refine kb_go 60 [] ?_
    refine And.intro (kb_in_nI (by omega) (by omega)) (And.intro rfl ?_)
    refine And.intro (fun _ => ?_) (fun h => absurd er (of_decide_eq_false h))
    refine And.intro (kb_in_nI (by omega) (by omega)) (And.intro rfl ?_)
    refine And.intro (fun _ => And.intro rfl rfl) (fun h => ?_)
    refine kb_E_to (Sh (fin (of_decide_eq_false h))) ?_
    exact And.intro (fun h => absurd h (by decide)) (fun _ => And.intro rfl rfl)
set_option maxRecDepth 100000 in
theorem cq_room2 {a f n : Nat} (ha : a < 2) (hf : f < 6) (C : kb_M) {Q Q1 : kb_R → Prop} (hl : C (20 + 7 * a) f = nI n) (hn : n < 24) (h4 : n % 4 = 0) (Sh : kb_E (kb_en kz_Pool_hasFullShare [.inr (some 6), .inl (C (19 + 7 * a) 3)] C) (fun q => q = (some (.inl 0), C))) (W : kb_E (kb_en kz_Kernel_bindForApplication [.inr (some 1), .inl (C (19 + 7 * a) 3), .inl (nI 1)] C) Q1) (K : ∀ v M, Q1 (v, M) → ∃ r, r < 24 ∧ v = some (.inl (nI r)) ∧ Q (some (.inl 1), kb_up M (21 + 7 * a) (6 * f + n / 4) (nI r))) : kb_E (kb_en kz_App_makeRoomForWord [.inr (some (19 + 7 * a)), .inl (nI f)] C) Q := by
  have hcl : (nI f).toNatClampNeg = f := nI_clamp (by omega)
  have ed : C (20 + 7 * a) (nI f).toNatClampNeg / Int32.ofInt 4 = nI (n / 4) := by rw [hcl, hl, show Int32.ofInt 4 = nI 4 from rfl, pk_div (by omega) (by omega) (by omega)]
  have er : C (20 + 7 * a) (nI f).toNatClampNeg - C (20 + 7 * a) (nI f).toNatClampNeg / Int32.ofInt 4 * Int32.ofInt 4 = 0 := by
    rw [hcl, hl, show Int32.ofInt 4 = nI 4 from rfl, pk_rem (by omega) (by omega) (by omega), h4]
    rfl
  have fin : ¬ (Int8.ofInt 6).toInt32 ≤ C (20 + 7 * a) (nI f).toNatClampNeg / Int32.ofInt 4 := by
    rw [ed, show (Int8.ofInt 6).toInt32 = nI 6 from rfl]
    exact Int32.not_le.mpr (nI_lt (by omega) (by omega))
  have hq6 : (nI (6 * f + n / 4)).toNatClampNeg = 6 * f + n / 4 := nI_clamp (by omega)
  have ix : nI f * (Int8.ofInt 6).toInt32 + C (20 + 7 * a) (nI f).toNatClampNeg / Int32.ofInt 4 = nI (6 * f + n / 4) := by rw [ed, Int32.mul_comm, kr_6 hf]
  have ha01 : a = 0 ∨ a = 1 := by omega
  rcases ha01 with rfl | rfl
  all_goals
    refine kb_go 60 [] ?_
    refine And.intro (kb_in_nI (by omega) (by omega)) (And.intro rfl ?_)
    refine And.intro (fun _ => ?_) (fun h => absurd er (of_decide_eq_false h))
    refine And.intro (kb_in_nI (by omega) (by omega)) (And.intro rfl ?_)
    refine And.intro (fun h => absurd (of_decide_eq_true h) fin) (fun _ => ?_)
    refine kb_E_to Sh ?_
    refine And.intro (fun _ => ?_) (fun h => absurd h (by decide))
    refine kb_E_then W (fun v M hq => ?_)
    obtain ⟨r, r1, r2, r3⟩ := K v M hq
    subst r2
    refine And.intro (by rw [ix]; exact kb_in_nI (by omega) (by omega)) ?_
    rw [← hq6, ← ix] at r3
    refine And.intro (fun h => absurd (of_decide_eq_true h) (nI_m1 (by omega))) (fun _ => And.intro rfl r3)
set_option maxRecDepth 100000 in
theorem cq_append {a f n : Nat} (ha : a < 2) (hf : f < 6) (C : kb_M) (w : Int32) {Q Q1 : kb_R → Prop} (G : kb_E (kb_en kz_App_makeRoomForWord [.inr (some (19 + 7 * a)), .inl (nI f)] C) Q1) (K : ∀ v M, Q1 (v, M) → (v = some (.inl 0) ∧ Q (some (.inl 0), M)) ∨ (v = some (.inl 1) ∧ M (20 + 7 * a) f = nI n ∧ ∃ Q2, kb_E (kb_en kz_App_openPartOf [.inr (some (19 + 7 * a)), .inl (nI f), .inl (nI n)] (kb_up M (20 + 7 * a) f (nI (n + 1)))) Q2 ∧ ∀ v2 M2, Q2 (v2, M2) → ∃ s, s < 3 ∧ v2 = some (.inr (some (23 + 7 * a + s))) ∧ kb_E (kb_en kz_App_changeWord [.inr (some (19 + 7 * a)), .inr (some (23 + 7 * a + s)), .inl (nI n), .inl w] M2) (fun q => q.1 = some (.inl 1) ∧ Q q))) : kb_E (kb_en kz_App_appendWord [.inr (some (19 + 7 * a)), .inl (nI f), .inl w] C) Q := by
  have F := cq_isFile C (nI f)
  have h5 : 0 ≤ nI f ∧ nI f ≤ 5 := kr_out (n := 5) (by omega) (by omega)
  rw [if_pos h5] at F
  have hcl : (nI f).toNatClampNeg = f := nI_clamp (by omega)
  have conv : ∀ (M : kb_M) (Q2 : kb_R → Prop), M (20 + 7 * a) f = nI n → kb_E (kb_en kz_App_openPartOf [.inr (some (19 + 7 * a)), .inl (nI f), .inl (nI n)] (kb_up M (20 + 7 * a) f (nI (n + 1)))) Q2 → kb_E (kb_en kz_App_openPartOf [.inr (some (19 + 7 * a)), .inl (nI f), .inl (M (20 + 7 * a) (nI f).toNatClampNeg)] (kb_up M (20 + 7 * a) (nI f).toNatClampNeg (M (20 + 7 * a) (nI f).toNatClampNeg + 1))) Q2 := by
    intro M Q2 hm hq
    rw [hcl, hm, ← nI_succ]
    exact hq
  have conv2 : ∀ (M M2 : kb_M) (s : Nat) (Q2 : kb_R → Prop), M (20 + 7 * a) f = nI n → kb_E (kb_en kz_App_changeWord [.inr (some (19 + 7 * a)), .inr (some (23 + 7 * a + s)), .inl (nI n), .inl w] M2) Q2 → kb_E (kb_en kz_App_changeWord [.inr (some (19 + 7 * a)), .inr (some (23 + 7 * a + s)), .inl (M (20 + 7 * a) (nI f).toNatClampNeg), .inl w] M2) Q2 := by
    intro M M2 s Q2 hm hq
    rw [hcl, hm]
    exact hq
  have ha01 : a = 0 ∨ a = 1 := by omega
  rcases ha01 with rfl | rfl
  all_goals
    refine kb_go 60 [] ?_
    refine kb_E_to F ?_
    refine And.intro (fun h => absurd h (by decide)) (fun _ => ?_)
    refine kb_E_then G (fun v M hq => ?_)
    rcases K v M hq with ⟨k1, k2⟩ | ⟨k1, k2, Q2, k3, k4⟩
    · subst k1
      exact And.intro (fun h => absurd h (by decide)) (fun _ => And.intro rfl k2)
    · subst k1
      have k3 := conv M Q2 k2 k3
      refine And.intro (fun _ => ?_) (fun h => absurd h (by decide))
      refine And.intro (kb_in_nI (by omega) (by omega)) ?_
      refine And.intro (kb_in_nI (by omega) (by omega)) ?_
      refine And.intro (kb_in_nI (by omega) (by omega)) ?_
      refine kb_E_then k3 (fun v2 M2 hq2 => ?_)
      obtain ⟨s, s1, s2, s3⟩ := k4 v2 M2 hq2
      subst s2
      refine kb_E_then (conv2 M M2 s _ k2 s3) (fun v3 M3 hq3 => ?_)
      obtain ⟨t1, t2⟩ := hq3
      dsimp only at t1
      subst t1
      exact And.intro rfl t2
