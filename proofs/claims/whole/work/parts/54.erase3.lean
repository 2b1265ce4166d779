/-! eraseFile, and erase of the class against the reference -/
theorem kl_x6 (f : Nat) : (nI f + Int32.ofInt 1) * (Int8.ofInt 6).toInt32 = nI (6 * f + 6) := by
  rw [show Int32.ofInt 1 = nI 1 from rfl, show (Int8.ofInt 6).toInt32 = nI 6 from rfl, nI_add, pk_mul]
  congr 1
  omega
theorem kl_x0 (f : Nat) : nI f * (Int8.ofInt 6).toInt32 = nI (6 * f + 0) := by
  rw [show (Int8.ofInt 6).toInt32 = nI 6 from rfl, pk_mul]
  congr 1
  omega
set_option maxRecDepth 100000 in
theorem kl_loop {N B : Nat} {C R : kb_M} (hR : kr_ok R) {a f m : Nat} (ha : a < 2) (hf : f < 6) (hm : (kr_sz R (6 * a + f) + 3) / 4 = m) : ∀ (n i j : Nat) (v e : Int32) (E : kb_M), i + n = 6 → (i ≤ m → j = i) → (m ≤ i → j = m) → v = nI (6 * f + i) → e = nI j → kl_I N B C R a f j E → kb_E (kz_App_eraseFile, 16, [some (.inr (some (19 + 7 * a))), some (.inl (nI f)), some (.inl e), some (.inl v)], [], E) (fun q => q.1 = some (.inl (nI m)) ∧ ki_Z N B q.2 (kr_era R a f)) := by
  have h24 := (hR.2.1 (6 * a + f) (by omega)).2
  have x6 := kl_x6 f
  have ha01 : a = 0 ∨ a = 1 := by omega
  intro n
  induction n with
  | zero =>
    intro i j v e E hi h1 h2 hv he hI
    subst hv
    subst he
    have hj : j = m := h2 (by omega)
    subst hj
    have W := kl_end hR hm hI ha hf
    have hcl : (nI f).toNatClampNeg = f := nI_clamp (by omega)
    rcases ha01 with rfl | rfl
    all_goals
      refine kb_go 60 [16] ?_
      refine And.intro (fun h => ?_) (fun h => ?_)
      · refine And.intro (kb_in_nI (by omega) (by omega)) (And.intro rfl ⟨rfl, ?_⟩)
        rw [hcl]
        exact W
      · have h := of_decide_eq_false h
        rw [x6, nI_leI (by omega) (by omega)] at h
        omega
  | succ n ih =>
    intro i j v e E hi h1 h2 hv he hI
    subst hv
    subst he
    have hcl : (nI (6 * f + i)).toNatClampNeg = 6 * f + i := nI_clamp (by omega)
    by_cases hlt : i < m
    · have hj : j = i := h1 (by omega)
      subst hj
      have S := kl_step hR hI ha hf (by omega)
      have hb : E (21 + 7 * a) (6 * f + j) ≠ -1 := by
        obtain ⟨F, S, L, hZ, hL, sn, s34, hno, f7, f21, en, e7, e21⟩ := hI
        have s35 : S 35 = R 35 := (sn 35 (by decide)).trans (kr_er_ok hR ha f j).2
        obtain ⟨w, w1, w2, -⟩ := (hZ.1.2.2.2.2.2 a ha).2.2.1.1 f j hf (by omega) (by unfold kr_sz; rw [s35]; show 4 * j < kr_sz R (6 * a + f); omega)
        rw [e21, kl_21_at, if_neg (by omega), ← f21, w2]
        exact nI_m1 (by omega)
      rcases ha01 with rfl | rfl
      all_goals
        refine kb_go 60 [16] ?_
        refine And.intro (fun h => ?_) (fun _ => ?_)
        · have h := of_decide_eq_true h
          rw [x6, nI_leI (by omega) (by omega)] at h
          omega
        · refine And.intro (kb_in_nI (by omega) (by omega)) ?_
          refine And.intro (fun h => ?_) (fun h => ?_)
          · have h := of_decide_eq_true h
            rw [hcl] at h
            exact absurd h hb
          · refine kb_E_then S (fun v M hq => ?_)
            obtain ⟨q1, q2⟩ := hq
            dsimp only at q1 q2
            subst q1
            exact ih (j + 1) (j + 1) _ _ M (by omega) (fun _ => rfl) (fun _ => by omega) (nI_succ (6 * f + j)).symm (nI_succ j).symm q2
    · have hj : j = m := h2 (by omega)
      subst hj
      have hb : E (21 + 7 * a) (6 * f + i) = -1 := by
        obtain ⟨F, S, L, hZ, hL, sn, s34, hno, f7, f21, en, e7, e21⟩ := hI
        have s35 : S 35 = R 35 := (sn 35 (by decide)).trans (kr_er_ok hR ha f j).2
        have p2 := (hZ.1.2.2.2.2.2 a ha).2.2.1.2.1 f i hf (by omega) (by unfold kr_sz; rw [s35]; show ¬ 4 * i < kr_sz R (6 * a + f); omega)
        rw [e21, kl_21_at, if_neg (by omega), ← f21]
        exact p2
      rcases ha01 with rfl | rfl
      all_goals
        refine kb_go 60 [16] ?_
        refine And.intro (fun h => ?_) (fun _ => ?_)
        · have h := of_decide_eq_true h
          rw [x6, nI_leI (by omega) (by omega)] at h
          omega
        · refine And.intro (kb_in_nI (by omega) (by omega)) ?_
          refine And.intro (fun h => ?_) (fun h => ?_)
          · exact ih (i + 1) j _ _ E (by omega) (fun _ => by omega) (fun _ => rfl) (nI_succ (6 * f + i)).symm rfl hI
          · have h := of_decide_eq_false h
            rw [hcl] at h
            exact absurd hb h
set_option maxRecDepth 100000 in
theorem op_eraseFile {N B : Nat} {C R : kb_M} (h : ki_Z N B C R) {a f : Nat} (ha : a < 2) (hf : f < 6) : kb_E (kb_en kz_App_eraseFile [.inr (some (19 + 7 * a)), .inl (nI f)] C) (fun q => q.1 = some (.inl (nI ((kr_sz R (6 * a + f) + 3) / 4))) ∧ ki_Z N B q.2 (kr_era R a f)) := by
  obtain ⟨L, hL⟩ := (h.1.2.2.2.2.2 a ha).2.2.2.1
  have I0 : kl_I N B C R a f 0 C := ⟨C, R, L, h, hL, fun _ _ => rfl, fun _ _ => rfl, fun s p _ hp => absurd hp (by omega), rfl, rfl, fun _ _ _ => rfl, rfl, rfl⟩
  have W := kl_loop h.1.1 ha hf rfl 6 0 0 _ 0 C (by omega) (fun _ => rfl) (fun _ => by omega) (kl_x0 f) rfl I0
  have F := cq_isFile C (nI f)
  rw [if_pos (show 0 ≤ nI f ∧ nI f ≤ 5 from kr_out (n := 5) (by omega) (by omega))] at F
  have ha01 : a = 0 ∨ a = 1 := by omega
  rcases ha01 with rfl | rfl
  all_goals
    refine kb_go 60 [16] ?_
    refine kb_E_to F ?_
    refine And.intro (fun _ => ?_) (fun h => absurd h (by decide))
    exact W
set_option maxRecDepth 100000 in
theorem op_eraseFile_no {C : kb_M} {a : Nat} (ha : a < 2) {v : Int32} (hv : ¬ (0 ≤ v ∧ v ≤ 5)) : kb_E (kb_en kz_App_eraseFile [.inr (some (19 + 7 * a)), .inl v] C) (fun q => q = (some (.inl (-1)), C)) := by
  have F := cq_isFile C v
  rw [if_neg hv] at F
  have ha01 : a = 0 ∨ a = 1 := by omega
  rcases ha01 with rfl | rfl
  all_goals
    refine kb_go 60 [16] ?_
    refine kb_E_to F ?_
    refine And.intro (fun h => absurd h (by decide)) (fun _ => ?_)
    exact And.intro rfl rfl
set_option maxRecDepth 100000 in
theorem ow_erase {N : Nat} {C R : kb_M} (h : ki_V N C R) (u v : Int32) : kw_P N kz_BK_erase kz_Model_erase [.inl u, .inl v] C R := by
  by_cases hu : 0 ≤ u ∧ u ≤ 1
  · obtain ⟨a, ha, rfl⟩ := kr_in u (n := 1) (by decide) hu
    have ha : a < 2 := by omega
    have O := op_appOf C ha
    by_cases hv : 0 ≤ v ∧ v ≤ 5
    · obtain ⟨f, hf, rfl⟩ := kr_in v (n := 5) (by decide) hv
      have W := op_eraseFile (kz_V.mp h) ha (show f < 6 by omega)
      refine ⟨_, _, cr_erase h.1.1 ha (by omega), ?_⟩
      have ha01 : a = 0 ∨ a = 1 := by omega
      rcases ha01 with rfl | rfl
      all_goals
        refine kb_go 60 [] ?_
        refine kb_E_to O ?_
        refine kb_E_then W (fun v M hq => ?_)
        obtain ⟨t1, t2⟩ := hq
        dsimp only at t1 t2
        subst t1
        exact And.intro rfl ⟨rfl, kv_z (kz_up t2)⟩
    · have W := op_eraseFile_no (C := C) ha hv
      refine ⟨-1, R, cr_erase_no (fun q => hv q.2), ?_⟩
      have ha01 : a = 0 ∨ a = 1 := by omega
      rcases ha01 with rfl | rfl
      all_goals
        refine kb_go 60 [] ?_
        refine kb_E_to O ?_
        refine kb_E_to W ?_
        exact And.intro rfl ⟨rfl, kv_up h⟩
  · refine ⟨-1, R, cr_erase_no (fun q => hu q.1), ?_⟩
    refine kb_go 60 [] ?_
    refine kb_E_to (op_appOf_no C hu) ?_
    exact And.intro rfl ⟨rfl, kv_up h⟩
