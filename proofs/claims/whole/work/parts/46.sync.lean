/-! append and sync of the class -/
set_option maxRecDepth 100000 in
theorem op_appendWord_no {a : Nat} (ha : a < 2) {v : Int32} (hv : ¬ (0 ≤ v ∧ v ≤ 5)) (C : kb_M) (w : Int32) : kb_E (kb_en kz_App_appendWord [.inr (some (19 + 7 * a)), .inl v, .inl w] C) (fun q => q = (some (.inl 0), C)) := by
  have F := cq_isFile C v
  rw [if_neg hv] at F
  have ha01 : a = 0 ∨ a = 1 := by omega
  rcases ha01 with rfl | rfl
  all_goals
    refine kb_go 60 [] ?_
    refine kb_E_to F ?_
    exact And.intro (fun _ => And.intro rfl rfl) (fun h => absurd h (by decide))
set_option maxRecDepth 100000 in
theorem ow_append {N : Nat} {C R : kb_M} (h : ki_V N C R) (hN : N ≤ 600) (u v w : Int32) : kw_P N kz_BK_append kz_Model_append [.inl u, .inl v, .inl w] C R := by
  by_cases hu : 0 ≤ u ∧ u ≤ 1
  · obtain ⟨a, ha, rfl⟩ := kr_in u (n := 1) (by decide) hu
    have ha : a < 2 := by omega
    have O := op_appOf C ha
    by_cases hv : 0 ≤ v ∧ v ≤ 5
    · obtain ⟨f, hf, rfl⟩ := kr_in v (n := 5) (by decide) hv
      have hf : f < 6 := by omega
      have W := op_appendWord (kz_V.mp h) hN (by omega) ha hf w
      have X := cr_append h.1.1 ha hf w
      obtain ⟨n, r, hr, y, y1, y2, y3, y4⟩ := kb_E_get W
      refine ⟨y, (kr_app R a f w).2, ?_, ?_⟩
      · rw [show kr_app R a f w = (some (.inl y), (kr_app R a f w).2) from by rw [← y3]] at X
        exact X
      · have ha01 : a = 0 ∨ a = 1 := by omega
        rcases ha01 with rfl | rfl
        all_goals
          refine kb_go 60 [] ?_
          refine kb_E_to O ?_
          refine kb_E_then W (fun v M hq => ?_)
          obtain ⟨y', t1, t2, t3, t4⟩ := hq
          dsimp only at t2 t4
          subst t2
          have e : y' = y := Sum.inl.inj (Option.some.inj (t3.symm.trans y3))
          subst e
          rcases t1 with rfl | rfl
          · exact And.intro (fun _ => And.intro rfl ⟨rfl, kz_V.mpr (kz_mono t4 (by omega))⟩) (fun h => absurd h (by decide))
          · exact And.intro (fun h => absurd h (by decide)) (fun _ => And.intro rfl ⟨rfl, kz_V.mpr (kz_mono t4 (by omega))⟩)
    · have W := op_appendWord_no ha hv C w
      refine ⟨0, R, cr_append_no (fun q => hv q.2) w, ?_⟩
      have ha01 : a = 0 ∨ a = 1 := by omega
      rcases ha01 with rfl | rfl
      all_goals
        refine kb_go 60 [] ?_
        refine kb_E_to O ?_
        refine kb_E_to W ?_
        exact And.intro (fun _ => And.intro rfl ⟨rfl, kv_up h⟩) (fun h => absurd h (by decide))
  · refine ⟨0, R, cr_append_no (fun q => hu q.1) w, ?_⟩
    refine kb_go 60 [] ?_
    refine kb_E_to (op_appOf_no C hu) ?_
    exact And.intro rfl ⟨rfl, kv_up h⟩
