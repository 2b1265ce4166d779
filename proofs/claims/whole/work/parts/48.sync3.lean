/-! sync of the class -/
theorem kj_sub (x y z : Int32) : x + z - (y + z) = x - y := by
  apply Int32.toBitVec_inj.mp
  simp only [Int32.toBitVec_sub, Int32.toBitVec_add]
  bv_omega
set_option maxRecDepth 100000 in
theorem op_storeAll {N B : Nat} {C R : kb_M} (h : ki_Z N B C R) {a : Nat} (ha : a < 2) : kb_E (kb_en kz_App_storeAllChanged [.inr (some (19 + 7 * a))] C) (fun q => q.1 = some (.inl ((kr_sy R a (kr_fr R a)) 33 1 - R 33 1)) ∧ ki_Z N B q.2 (kr_sy R a (kr_fr R a))) := by
  obtain ⟨L, hL⟩ := (h.1.2.2.2.2.2 a ha).2.2.2.1
  have hle := (h.1.1.2.2.1 a ha).2
  have hlen := hL.1
  have all := kg_all (R := R) (a := a) hL.2.1 hL.2.2.1 (by omega)
  rw [hlen] at all
  have W0 := kz_sl h ha hL (s := 0) (by decide)
  have W1 := fun M (z : ki_Z N B M (kg_s R a L 0)) (b : ki_B M (kg_s R a L 0) a L) => kz_sl z ha b (s := 1) (by decide)
  have W2 := fun M (z : ki_Z N B M (kg_s (kg_s R a L 0) a L 1)) (b : ki_B M (kg_s (kg_s R a L 0) a L 1) a L) => kz_sl z ha b (s := 2) (by decide)
  have fin : ∀ M, ki_Z N B M (kg_s (kg_s (kg_s R a L 0) a L 1) a L 2) → M (19 + 7 * (1 - a)) = C (19 + 7 * (1 - a)) → M (19 + 7 * a) 1 - C (19 + 7 * a) 1 = (kr_sy R a (kr_fr R a)) 33 1 - R 33 1 ∧ ki_Z N B M (kr_sy R a (kr_fr R a)) := by
    intro M hz hm
    rw [all] at hz
    refine ⟨?_, hz⟩
    obtain ⟨-, x1⟩ := h.2.2.2.2
    obtain ⟨-, y1⟩ := hz.2.2.2.2
    rw [← x1, ← y1]
    have ha01 : a = 0 ∨ a = 1 := by omega
    rcases ha01 with rfl | rfl
    · have hm : M 26 = C 26 := hm
      show M 19 1 - C 19 1 = M 19 1 + M 26 1 - (C 19 1 + C 26 1)
      rw [hm]
      exact (kj_sub _ _ _).symm
    · have hm : M 19 = C 19 := hm
      show M 26 1 - C 26 1 = M 19 1 + M 26 1 - (C 19 1 + C 26 1)
      rw [hm, Int32.add_comm (C 19 1), Int32.add_comm (C 19 1)]
      exact (kj_sub _ _ _).symm
  have ha01 : a = 0 ∨ a = 1 := by omega
  rcases ha01 with rfl | rfl
  all_goals
    refine kb_go 100 [] ?_
    refine And.intro (fun h => absurd h (by decide)) (fun _ => And.intro rfl ?_)
    refine kb_E_then W0 (fun v M hq => ?_)
    obtain ⟨q1, q2, q3, q4⟩ := hq
    dsimp only at q1 q2 q3 q4
    subst q1
    refine And.intro (fun h => absurd h (by decide)) (fun _ => And.intro rfl ?_)
    refine kb_E_then (W1 M q2 q3) (fun v1 M1 hq1 => ?_)
    obtain ⟨t1, t2, t3, t4⟩ := hq1
    dsimp only at t1 t2 t3 t4
    subst t1
    refine And.intro (fun h => absurd h (by decide)) (fun _ => And.intro rfl ?_)
    refine kb_E_then (W2 M1 t2 t3) (fun v2 M2 hq2 => ?_)
    obtain ⟨y1, y2, y3, y4⟩ := hq2
    dsimp only at y1 y2 y3 y4
    subst y1
    obtain ⟨f1, f2⟩ := fin M2 y2 (y4.trans (t4.trans q4))
    exact And.intro (fun _ => And.intro rfl ⟨congrArg (fun x => some (Sum.inl x)) f1, f2⟩) (fun h => absurd h (by decide))
set_option maxRecDepth 100000 in
theorem ow_sync {N : Nat} {C R : kb_M} (h : ki_V N C R) (u : Int32) : kw_P N kz_BK_sync kz_Model_sync [.inl u] C R := by
  by_cases hu : 0 ≤ u ∧ u ≤ 1
  · obtain ⟨a, ha, rfl⟩ := kr_in u (n := 1) (by decide) hu
    have ha : a < 2 := by omega
    have O := op_appOf C ha
    have W := op_storeAll (kz_V.mp h) ha
    refine ⟨_, _, cr_sync h.1.1 ha, ?_⟩
    have ha01 : a = 0 ∨ a = 1 := by omega
    rcases ha01 with rfl | rfl
    all_goals
      refine kb_go 60 [] ?_
      refine kb_E_to O ?_
      refine kb_E_then W (fun v M hq => ?_)
      obtain ⟨t1, t2⟩ := hq
      dsimp only at t1 t2
      subst t1
      exact And.intro rfl ⟨rfl, kv_z (kz_up t2)⟩
  · refine ⟨-1, R, cr_sync_no hu, ?_⟩
    refine kb_go 60 [] ?_
    refine kb_E_to (op_appOf_no C hu) ?_
    exact And.intro rfl ⟨rfl, kv_up h⟩
