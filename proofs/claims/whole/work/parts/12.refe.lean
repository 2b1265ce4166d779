/-! the reference's public methods, the rest -/
/-- copy: four words from binding j to binding k -/
def kr_c1 (S : kb_M) (j k i : Nat) : kb_M := kb_up S 44 (4 * k + i) (S 44 (4 * j + i))
def kr_cpy (R : kb_M) (j k : Nat) : kb_M := kr_c1 (kr_c1 (kr_c1 (kr_c1 R j k 0) j k 1) j k 2) j k 3
def kr_copy (R : kb_M) (u v w : Int32) : kb_R := match kr_lt R u v, kr_lt R u w with
  | some j, some k => if R 41 j = R 41 k then (some (.inl 0), R) else (some (.inl 1), kr_cpy R j k)
  | _, _ => (some (.inl 0), R)
theorem kr_44 {R : kb_M} {i x : Nat} {v : Int32} (h : x ≠ i) : (kb_up R 44 i v) 44 x = R 44 x := by
  rw [kb_up_at]
  exact pk_un h
set_option maxRecDepth 100000 in
set_option maxHeartbeats 4000000 in
theorem cr_copy {R : kb_M} (hR : kr_ok R) (u v w : Int32) : kb_E (kb_en kz_Model_copy [.inr (some 33), .inl u, .inl v, .inl w] R) (fun q => q = kr_copy R u v w) := by
  refine kb_go 200 [] ?_
  refine kb_E_to (cr_liveX hR u v) ?_
  refine kb_E_to (cr_liveX hR u w) ?_
  unfold kr_copy
  cases hl : kr_lt R u v with
  | none => exact And.intro (fun _ => And.intro rfl rfl) (fun h => absurd (show decide ((-1 : Int32) < 0) = false from h) (by decide))
  | some j =>
    obtain ⟨g, t, hg, ht, -, -, -, hj, -⟩ := kr_lt_lt hR hl
    have hcl : (nI j).toNatClampNeg = j := nI_clamp (by omega)
    rw [show kr_lw (some j) = nI j from rfl]
    refine And.intro (fun h => absurd (of_decide_eq_true h) (nI_pos (by omega))) (fun _ => ?_)
    cases hl2 : kr_lt R u w with
    | none => exact And.intro (fun _ => And.intro rfl rfl) (fun h => absurd (show decide ((-1 : Int32) < 0) = false from h) (by decide))
    | some k =>
      obtain ⟨g2, t2, hg2, ht2, -, -, -, hk, -⟩ := kr_lt_lt hR hl2
      have hck : (nI k).toNatClampNeg = k := nI_clamp (by omega)
      rw [show kr_lw (some k) = nI k from rfl]
      refine And.intro (fun h => absurd (of_decide_eq_true h) (nI_pos (by omega))) (fun _ => ?_)
      refine And.intro (kb_in_nI hj (by omega)) ?_
      refine And.intro (kb_in_nI hk (by omega)) ?_
      refine And.intro (fun h => ?_) (fun h => ?_)
      · have h := of_decide_eq_true h
        rw [hcl, hck] at h
        have hjk : j ≠ k := fun q => h (by rw [q])
        have ex : ∀ (m i : Nat), m < 120 → i < 4 → (Int32.ofInt 4 * nI m + nI i).toNatClampNeg = 4 * m + i := fun m i hm hi => by rw [kr_4, nI_clamp (by omega)]
        have ei : ∀ (m i : Nat), m < 120 → i < 4 → kb_in (Int32.ofInt 4 * nI m + nI i) 480 = true := fun m i hm hi => by rw [kr_4]; exact kb_in_nI (by omega) (by omega)
        refine And.intro (fun h => absurd h (by decide)) (fun _ => And.intro (ei j 0 hj (by decide)) (And.intro (ei k 0 hk (by decide)) ?_))
        refine And.intro (fun h => absurd h (by decide)) (fun _ => And.intro (ei j 1 hj (by decide)) (And.intro (ei k 1 hk (by decide)) ?_))
        refine And.intro (fun h => absurd h (by decide)) (fun _ => And.intro (ei j 2 hj (by decide)) (And.intro (ei k 2 hk (by decide)) ?_))
        refine And.intro (fun h => absurd h (by decide)) (fun _ => And.intro (ei j 3 hj (by decide)) (And.intro (ei k 3 hk (by decide)) ?_))
        refine And.intro (fun _ => And.intro rfl ?_) (fun h => absurd h (by decide))
        show _ = if _ then _ else _
        rw [if_neg h]
        refine congrArg (Prod.mk _) ?_
        unfold kr_cpy kr_c1
        rw [← ex j 0 hj (by decide), ← ex j 1 hj (by decide), ← ex j 2 hj (by decide), ← ex j 3 hj (by decide), ← ex k 0 hk (by decide), ← ex k 1 hk (by decide), ← ex k 2 hk (by decide), ← ex k 3 hk (by decide)]
        rfl
      · have h := Classical.not_not.mp (of_decide_eq_false h)
        rw [hcl, hck] at h
        refine And.intro rfl ?_
        show _ = if _ then _ else _
        rw [if_pos h]
        rfl
set_option maxRecDepth 100000 in
theorem cr_time (R : kb_M) : kb_E (kb_en kz_Model_time [.inr (some 33)] R) (fun q => q = (some (.inl (R 33 0)), R)) := by
  refine kb_go 20 [] ?_
  exact And.intro rfl rfl
set_option maxRecDepth 100000 in
theorem cr_transfers (R : kb_M) (b : Int32) : kb_E (kb_en kz_Model_transfers [.inr (some 33), .inl b] R) (fun q => q = (some (.inl (if b = 0 then R 33 2 else R 33 1)), R)) := by
  refine kb_go 20 [] ?_
  refine And.intro (fun h => ?_) (fun h => ?_)
  · have h := of_decide_eq_true h
    rw [if_pos h]
    exact And.intro rfl rfl
  · have h := of_decide_eq_false h
    rw [if_neg h]
    exact And.intro rfl rfl
theorem kr_env {v : Int32} (h : 0 ≤ v ∧ v ≤ 3) : ∃ e : Nat, e < 4 ∧ v = nI e := by
  obtain ⟨k, hk, e⟩ := kr_in v (n := 3) (by decide) h
  exact ⟨k, by omega, e⟩
set_option maxRecDepth 100000 in
theorem cr_losses {R : kb_M} (v : Int32) : kb_E (kb_en kz_Model_losses [.inr (some 33), .inl v] R) (fun q => q = (some (.inl (if 0 ≤ v ∧ v ≤ 3 then (if v < 2 then 0 else R 40 (v - 2).toNatClampNeg) else -1)), R)) := by
  have h1 := cr_within R v 0 3
  refine kb_go 40 [] ?_
  refine kb_E_to h1 ?_
  by_cases hv : 0 ≤ v ∧ v ≤ 3
  · rw [if_pos hv, if_pos hv]
    obtain ⟨e, he, rfl⟩ := kr_env hv
    refine And.intro (fun _ => ?_) (fun h => absurd h (by decide))
    refine And.intro (fun h => ?_) (fun h => ?_)
    · have h : 2 ≤ nI e := of_decide_eq_true h
      rw [if_neg (Int32.not_lt.mpr h)]
      have h2 : nI 2 ≤ nI e := h
      rw [nI_leI (by omega) (by omega)] at h2
      refine And.intro ?_ (And.intro rfl rfl)
      rw [show Int32.ofInt 2 = nI 2 from rfl, pk_sub h2]
      exact kb_in_nI (by omega) (by omega)
    · have h : ¬ 2 ≤ nI e := of_decide_eq_false h
      rw [if_pos (Int32.not_le.mp h)]
      exact And.intro rfl rfl
  · rw [if_neg hv, if_neg hv]
    exact And.intro (fun h => absurd h (by decide)) (fun _ => And.intro rfl rfl)
set_option maxRecDepth 100000 in
theorem cr_held {R : kb_M} (hR : kr_ok R) (v : Int32) {b : Nat} (hb : b < 2) : kb_E (kb_en kz_Model_held [.inr (some 33), .inl v, .inl (nI b)] R) (fun q => q = (some (.inl (if 0 ≤ v ∧ v ≤ 3 then nI (kr_c R v.toNatClampNeg b) else -1)), R)) := by
  have h1 := cr_within R v 0 3
  refine kb_go 40 [] ?_
  refine kb_E_to h1 ?_
  by_cases hv : 0 ≤ v ∧ v ≤ 3
  · rw [if_pos hv, if_pos hv]
    obtain ⟨e, he, rfl⟩ := kr_env hv
    rw [nI_clamp (by omega)]
    refine And.intro (fun h => absurd h (by decide)) (fun _ => ?_)
    exact kb_E_to (cr_count hR he hb) (And.intro rfl rfl)
  · rw [if_neg hv, if_neg hv]
    exact And.intro (fun _ => And.intro rfl rfl) (fun h => absurd h (by decide))
set_option maxRecDepth 100000 in
theorem cr_pass {R : kb_M} (hR : kr_ok R) (n : Int32) : kb_E (kb_en kz_Model_pass [.inr (some 33), .inl n] R) (fun q => q = if 1 ≤ n ∧ n ≤ 50 then (some (.inl (nI (kr_k R (R 33 0 + n) 0 (kr_bd R 0) + kr_k R (R 33 0 + n) 1 (kr_bd R 1)))), kr_mv R (R 33 0 + n)) else (some (.inl (-1)), R)) := by
  have h1 := cr_within R n 1 50
  refine kb_go 40 [] ?_
  refine kb_E_to h1 ?_
  by_cases hv : 1 ≤ n ∧ n ≤ 50
  · rw [if_pos hv, if_pos hv]
    refine And.intro (fun h => absurd h (by decide)) (fun _ => ?_)
    exact kb_E_to (cr_moveTo hR _) (And.intro rfl rfl)
  · rw [if_neg hv, if_neg hv]
    exact And.intro (fun _ => And.intro rfl rfl) (fun h => absurd h (by decide))
set_option maxRecDepth 100000 in
theorem cr_state {R : kb_M} (hR : kr_ok R) (u v : Int32) : kb_E (kb_en kz_Model_state [.inr (some 33), .inl u, .inl v] R) (fun q => q = (some (.inl (if (2 ≤ u ∧ u ≤ 3) ∧ (0 ≤ v ∧ v ≤ R 39 (u - 2).toNatClampNeg - 1) then R 42 (60 * (u - 2).toNatClampNeg + v.toNatClampNeg) else -1)), R)) := by
  have h1 := cr_within R u 2 3
  refine kb_go 40 [] ?_
  refine kb_E_to h1 ?_
  by_cases hu : 2 ≤ u ∧ u ≤ 3
  · rw [if_pos hu]
    obtain ⟨g, hg, rfl⟩ := kr_gst hu
    have eg2 : (nI g).toNatClampNeg = g := nI_clamp (by omega)
    have eg : nI (2 + g) - 2 = nI g := kr_g2 hg
    obtain ⟨hbd, hle⟩ := hR.1 g hg
    refine And.intro (fun h => absurd h (by decide)) (fun _ => ?_)
    refine And.intro (by rw [kr_g2 hg]; exact kb_in_nI hg (by omega)) ?_
    refine kb_E_to (cr_within R v 0 _) ?_
    have eb : R 39 (nI (2 + g) - Int32.ofInt 2).toNatClampNeg - Int32.ofInt 1 = nI (kr_bd R g) - 1 := by rw [kr_g2 hg, eg2, hbd]; rfl
    rw [eb]
    by_cases hv : 0 ≤ v ∧ v ≤ nI (kr_bd R g) - 1
    · rw [if_pos hv]
      obtain ⟨t, ht, rfl⟩ := (kr_tk (by omega)).mp hv
      refine And.intro (fun _ => ?_) (fun h => absurd h (by decide))
      rw [if_pos ⟨hu, by rw [eg, eg2, hbd]; exact hv⟩]
      refine And.intro (by rw [kr_g2 hg, kr_60 hg]; exact kb_in_nI (by omega) (by omega)) (And.intro rfl ?_)
      rw [kr_g2 hg, kr_60 hg, nI_clamp (by omega), eg, eg2, nI_clamp (by omega)]
    · rw [if_neg hv]
      rw [if_neg (fun q => hv (by rw [eg, eg2, hbd] at q; exact q.2))]
      exact And.intro (fun h => absurd h (by decide)) (fun _ => And.intro rfl rfl)
  · rw [if_neg hu, if_neg (fun q => hu q.1)]
    exact And.intro (fun _ => And.intro rfl rfl) (fun h => absurd h (by decide))
