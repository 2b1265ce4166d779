/-! the class's read, write and length against the reference's -/
set_option maxRecDepth 100000 in
theorem ow_write {N : Nat} {C R : kb_M} (h : ki_V N C R) (hN : N ≤ 600) (u v x w : Int32) : kw_P N kz_BK_write kz_Model_write [.inl u, .inl v, .inl x, .inl w] C R := by
  by_cases hu : 0 ≤ u ∧ u ≤ 1
  · obtain ⟨a, ha, rfl⟩ := kr_in u (n := 1) (by decide) hu
    have ha : a < 2 := by omega
    have O := op_appOf C ha
    by_cases hn : ∃ f i, f < 6 ∧ v = nI f ∧ i < kr_sz R (6 * a + f) ∧ x = nI i
    · obtain ⟨f, i, hf, rfl, hi, rfl⟩ := hn
      have W := op_writeWord (kz_V.mp h) hN (by omega) ha hf hi w
      refine ⟨1, _, cr_write h.1.1 ha hf hi w, ?_⟩
      have ha01 : a = 0 ∨ a = 1 := by omega
      rcases ha01 with rfl | rfl
      all_goals
        refine kb_go 60 [] ?_
        refine kb_E_to O ?_
        refine kb_E_then W (fun v M hq => ?_)
        obtain ⟨t1, t2⟩ := hq
        dsimp only at t1 t2
        subst t1
        exact And.intro (fun h => absurd h (by decide)) (fun _ => And.intro rfl ⟨rfl, kv_z t2⟩)
    · obtain ⟨n1, n2⟩ := cq_open_no h.1 ha hn
      have W := op_writeWord_no ha n1 w
      refine ⟨0, R, cr_write_no n2 w, ?_⟩
      have ha01 : a = 0 ∨ a = 1 := by omega
      rcases ha01 with rfl | rfl
      all_goals
        refine kb_go 60 [] ?_
        refine kb_E_to O ?_
        refine kb_E_to W ?_
        exact And.intro (fun _ => And.intro rfl ⟨rfl, kv_up h⟩) (fun h => absurd h (by decide))
  · refine ⟨0, R, cr_write_no (cr_noWord0 (fun q => hu q.1) x) w, ?_⟩
    refine kb_go 60 [] ?_
    refine kb_E_to (op_appOf_no C hu) ?_
    exact And.intro rfl ⟨rfl, kv_up h⟩
set_option maxRecDepth 100000 in
theorem ow_read {N : Nat} {C R : kb_M} (h : ki_V N C R) (hN : N ≤ 600) (u v x : Int32) : kw_P N kz_BK_read kz_Model_read [.inl u, .inl v, .inl x] C R := by
  by_cases hu : 0 ≤ u ∧ u ≤ 1
  · obtain ⟨a, ha, rfl⟩ := kr_in u (n := 1) (by decide) hu
    have ha : a < 2 := by omega
    have O := op_appOf C ha
    by_cases hn : ∃ f i, f < 6 ∧ v = nI f ∧ i < kr_sz R (6 * a + f) ∧ x = nI i
    · obtain ⟨f, i, hf, rfl, hi, rfl⟩ := hn
      have W := op_readWord (kz_V.mp h) hN (by omega) ha hf hi
      refine ⟨_, _, cr_read h.1.1 ha hf hi, ?_⟩
      have ha01 : a = 0 ∨ a = 1 := by omega
      rcases ha01 with rfl | rfl
      all_goals
        refine kb_go 60 [] ?_
        refine kb_E_to O ?_
        refine kb_E_then W (fun v M hq => ?_)
        obtain ⟨t1, t2⟩ := hq
        dsimp only at t1 t2
        subst t1
        exact And.intro rfl ⟨rfl, kv_z t2⟩
    · obtain ⟨n1, n2⟩ := cq_open_no h.1 ha hn
      have W := op_readWord_no ha n1
      refine ⟨0, R, cr_read_no n2, ?_⟩
      have ha01 : a = 0 ∨ a = 1 := by omega
      rcases ha01 with rfl | rfl
      all_goals
        refine kb_go 60 [] ?_
        refine kb_E_to O ?_
        refine kb_E_to W ?_
        exact And.intro rfl ⟨rfl, kv_up h⟩
  · refine ⟨0, R, cr_read_no (cr_noWord0 (fun q => hu q.1) x), ?_⟩
    refine kb_go 60 [] ?_
    refine kb_E_to (op_appOf_no C hu) ?_
    exact And.intro rfl ⟨rfl, kv_up h⟩
set_option maxRecDepth 100000 in
theorem cq_length {a f : Nat} (ha : a < 2) (hf : f < 6) (C : kb_M) : kb_E (kb_en kz_App_lengthOf [.inr (some (19 + 7 * a)), .inl (nI f)] C) (fun q => q = (some (.inl (C (20 + 7 * a) f)), C)) := by
  have F := cq_isFile C (nI f)
  have h5 : 0 ≤ nI f ∧ nI f ≤ 5 := kr_out (n := 5) (by omega) (by omega)
  rw [if_pos h5] at F
  have hcl : (nI f).toNatClampNeg = f := nI_clamp (by omega)
  have ha01 : a = 0 ∨ a = 1 := by omega
  rcases ha01 with rfl | rfl
  all_goals
    refine kb_go 60 [] ?_
    refine kb_E_to F ?_
    refine And.intro (fun h => absurd h (by decide)) (fun _ => ?_)
    refine And.intro (kb_in_nI (by omega) (by omega)) (And.intro rfl ?_)
    rw [hcl]
set_option maxRecDepth 100000 in
theorem cq_length_no {a : Nat} (ha : a < 2) {v : Int32} (hv : ¬ (0 ≤ v ∧ v ≤ 5)) (C : kb_M) : kb_E (kb_en kz_App_lengthOf [.inr (some (19 + 7 * a)), .inl v] C) (fun q => q = (some (.inl (-1)), C)) := by
  have F := cq_isFile C v
  rw [if_neg hv] at F
  have ha01 : a = 0 ∨ a = 1 := by omega
  rcases ha01 with rfl | rfl
  all_goals
    refine kb_go 60 [] ?_
    refine kb_E_to F ?_
    exact And.intro (fun _ => And.intro rfl rfl) (fun h => absurd h (by decide))
set_option maxRecDepth 100000 in
theorem ow_length {N : Nat} {C R : kb_M} (h : ki_V N C R) (u v : Int32) : kw_P N kz_BK_length kz_Model_length [.inl u, .inl v] C R := by
  by_cases hu : 0 ≤ u ∧ u ≤ 1
  · obtain ⟨a, ha, rfl⟩ := kr_in u (n := 1) (by decide) hu
    have ha : a < 2 := by omega
    have O := op_appOf C ha
    by_cases hv : 0 ≤ v ∧ v ≤ 5
    · obtain ⟨f, hf, rfl⟩ := kr_in v (n := 5) (by decide) hv
      have W := cq_length ha (f := f) (by omega) C
      rw [(h.1.2.2.2.2.2 a ha).1.1 f (by omega)] at W
      refine ⟨_, R, cr_length ha (by omega), ?_⟩
      have ha01 : a = 0 ∨ a = 1 := by omega
      rcases ha01 with rfl | rfl
      all_goals
        refine kb_go 60 [] ?_
        refine kb_E_to O ?_
        refine kb_E_to W ?_
        exact And.intro rfl ⟨rfl, kv_up h⟩
    · have W := cq_length_no ha hv C
      refine ⟨-1, R, cr_length_no (fun q => hv q.2), ?_⟩
      have ha01 : a = 0 ∨ a = 1 := by omega
      rcases ha01 with rfl | rfl
      all_goals
        refine kb_go 60 [] ?_
        refine kb_E_to O ?_
        refine kb_E_to W ?_
        exact And.intro rfl ⟨rfl, kv_up h⟩
  · refine ⟨-1, R, cr_length_no (fun q => hu q.1), ?_⟩
    refine kb_go 60 [] ?_
    refine kb_E_to (op_appOf_no C hu) ?_
    exact And.intro rfl ⟨rfl, kv_up h⟩
