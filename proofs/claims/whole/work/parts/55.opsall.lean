/-! every public method: class and reference in one statement -/
theorem kw_of {N z y : Nat} {A : List kb_v} {C R : kb_M} {X : kb_R} (hv : ∃ v, X.1 = some (.inl v)) (hr : kb_E (kb_en y (.inr (some 33) :: A) R) (fun q => q = X)) (hc : kb_E (kb_en z (.inr (some 0) :: A) C) (fun q => q.1 = X.1 ∧ ki_V (N + 1) q.2 X.2)) : kw_P N z y A C R := by
  obtain ⟨v, hv⟩ := hv
  obtain ⟨X1, S⟩ := X
  have hv : X1 = some (.inl v) := hv
  subst hv
  exact ⟨v, S, hr, hc⟩
theorem kw_of0 {N z y : Nat} {A : List kb_v} {C R : kb_M} {X : kb_R} (hv : ∃ v, X.1 = some (.inl v)) (hr : kb_E (kb_en y (.inr (some 33) :: A) R) (fun q => q = X)) (hc : kb_E (kb_en z (.inr (some 0) :: A) C) (fun q => q.1 = X.1 ∧ ki_V N q.2 X.2)) : kw_P N z y A C R := kw_of hv hr (kb_E_imp hc (fun _ hq => ⟨hq.1, kv_up hq.2⟩))
theorem kw_same {N z y : Nat} {A : List kb_v} {C R : kb_M} (h : ki_V N C R) {v : Int32} (hr : kb_E (kb_en y (.inr (some 33) :: A) R) (fun q => q = (some (.inl v), R))) (hc : kb_E (kb_en z (.inr (some 0) :: A) C) (fun q => q = (some (.inl v), C))) : kw_P N z y A C R :=
  ⟨v, R, hr, kb_E_imp hc (fun q hq => by subst hq; exact ⟨rfl, kv_up h⟩)⟩
theorem ow_time {N : Nat} {C R : kb_M} (h : ki_V N C R) : kw_P N kz_BK_time kz_Model_time [] C R := kw_same h (cr_time R) (op_time h)
theorem ow_transfers {N : Nat} {C R : kb_M} (h : ki_V N C R) {b : Nat} (hb : b < 2) : kw_P N kz_BK_transfers kz_Model_transfers [.inl (nI b)] C R := kw_same h (cr_transfers R (nI b)) (op_transfers h hb)
theorem ow_free {N : Nat} {C R : kb_M} (h : ki_V N C R) {b : Nat} (hb : b < 2) : kw_P N kz_BK_free kz_Model_free [.inl (nI b)] C R := kw_same h (cr_free h.1.1 hb) (op_free h hb)
theorem ow_held {N : Nat} {C R : kb_M} (h : ki_V N C R) (v : Int32) {b : Nat} (hb : b < 2) : kw_P N kz_BK_held kz_Model_held [.inl v, .inl (nI b)] C R := kw_same h (cr_held h.1.1 v hb) (op_held h v hb)
theorem ow_losses {N : Nat} {C R : kb_M} (h : ki_V N C R) (v : Int32) : kw_P N kz_BK_losses kz_Model_losses [.inl v] C R := kw_same h (cr_losses v) (op_losses h v)
theorem ow_state {N : Nat} {C R : kb_M} (h : ki_V N C R) (u v : Int32) : kw_P N kz_BK_state kz_Model_state [.inl u, .inl v] C R := kw_same h (cr_state h.1.1 u v) (op_state h u v)
theorem ow_get {N : Nat} {C R : kb_M} (h : ki_V N C R) (u v i : Int32) : kw_P N kz_BK_get kz_Model_get [.inl u, .inl v, .inl i] C R := kw_same h (cr_get h.1.1 u v i) (op_get h u v i)
theorem kw_put (R : kb_M) (u v i w : Int32) : ∃ x, (kr_put R u v i w).1 = some (.inl x) := by
  unfold kr_put
  cases kr_lt R u v with
  | none => exact ⟨0, rfl⟩
  | some j =>
    by_cases hc : R 41 j = 0 ∧ 0 ≤ i ∧ i ≤ 3
    · exact ⟨1, by show (if _ then _ else _ : kb_R).1 = _; rw [if_pos hc]⟩
    · exact ⟨0, by show (if _ then _ else _ : kb_R).1 = _; rw [if_neg hc]⟩
theorem ow_put {N : Nat} {C R : kb_M} (h : ki_V N C R) (u v i w : Int32) : kw_P N kz_BK_put kz_Model_put [.inl u, .inl v, .inl i, .inl w] C R := kw_of0 (kw_put R u v i w) (cr_put h.1.1 u v i w) (op_put h u v i w)
theorem kw_rel (R : kb_M) (u v : Int32) : ∃ x, (kr_rel R u v).1 = some (.inl x) := by
  unfold kr_rel
  cases kr_lt R u v with
  | none => exact ⟨0, rfl⟩
  | some j => exact ⟨1, rfl⟩
theorem ow_release {N : Nat} {C R : kb_M} (h : ki_V N C R) (u v : Int32) : kw_P N kz_BK_release kz_Model_release [.inl u, .inl v] C R := kw_of0 (kw_rel R u v) (cr_release h.1.1 u v) (op_release h u v)
theorem kw_ask (R : kb_M) (u v : Int32) : ∃ x, (kr_ask R u v).1 = some (.inl x) := by
  unfold kr_ask
  cases kr_lt R u v with
  | none => exact ⟨0, rfl⟩
  | some j =>
    by_cases hc : R 42 j = 3
    · exact ⟨0, by show (if _ then _ else _ : kb_R).1 = _; rw [if_pos hc]⟩
    · exact ⟨1, by show (if _ then _ else _ : kb_R).1 = _; rw [if_neg hc]⟩
theorem ow_ask {N : Nat} {C R : kb_M} (h : ki_V N C R) (u v : Int32) : kw_P N kz_BK_ask kz_Model_ask [.inl u, .inl v] C R := kw_of0 (kw_ask R u v) (cr_ask h.1.1 u v) (op_ask h u v)
theorem kw_copy (R : kb_M) (u v w : Int32) : ∃ x, (kr_copy R u v w).1 = some (.inl x) := by
  unfold kr_copy
  cases kr_lt R u v with
  | none => exact ⟨0, rfl⟩
  | some j =>
    cases kr_lt R u w with
    | none => exact ⟨0, rfl⟩
    | some k =>
      by_cases hc : R 41 j = R 41 k
      · exact ⟨0, by show (if _ then _ else _ : kb_R).1 = _; rw [if_pos hc]⟩
      · exact ⟨1, by show (if _ then _ else _ : kb_R).1 = _; rw [if_neg hc]⟩
theorem ow_copy {N : Nat} {C R : kb_M} (h : ki_V N C R) (u v w : Int32) : kw_P N kz_BK_copy kz_Model_copy [.inl u, .inl v, .inl w] C R := kw_of0 (kw_copy R u v w) (cr_copy h.1.1 u v w) (op_copy h u v w)
theorem kw_sq (R : kb_M) (a : Nat) : ∃ x, (kr_sq R a).1 = some (.inl x) := by
  unfold kr_sq
  by_cases hc : kr_fr R a = 0
  · exact ⟨0, by rw [if_pos hc]⟩
  · exact ⟨1, by rw [if_neg hc]⟩
theorem ow_squeeze {N : Nat} {C R : kb_M} (h : ki_V N C R) (u : Int32) : kw_P N kz_BK_squeeze kz_Model_squeeze [.inl u] C R := by
  by_cases hu : 0 ≤ u ∧ u ≤ 1
  · obtain ⟨a, ha, rfl⟩ := kr_app_of hu
    exact kw_of0 (kw_sq R a) (cr_squeeze h.1.1 ha) (op_squeeze h ha)
  · exact kw_same h (cr_squeeze_no hu) (op_squeeze_no hu)
theorem kw_bind (R : kb_M) (g b : Nat) : ∃ x, (kr_bind R g b).1 = some (.inl x) := by
  unfold kr_bind
  by_cases h1 : kr_bd R g = 60
  · exact ⟨-1, by rw [if_pos h1]⟩
  · rw [if_neg h1]
    by_cases h2 : kr_f R b = 0
    · rw [if_pos h2]
      by_cases h3 : 3 + 3 * b ≤ kr_l R g (nI b) (kr_bd R g)
      · exact ⟨-2, by rw [if_pos h3]⟩
      · exact ⟨-3, by rw [if_neg h3]⟩
    · exact ⟨_, by rw [if_neg h2]⟩
theorem ow_bind {N : Nat} {C R : kb_M} (h : ki_V N C R) (hN : N ≤ 600) (u : Int32) {b : Nat} (hb : b < 2) : kw_P N kz_BK_bind kz_Model_bind [.inl u, .inl (nI b)] C R := by
  by_cases hu : 2 ≤ u ∧ u ≤ 3
  · obtain ⟨g, hg, rfl⟩ := kr_gst hu
    exact kw_of0 (kw_bind R g b) (cr_bind h.1.1 hg hb) (op_bind h hN hg hb)
  · exact kw_same h (cr_bind_no hu (nI b)) (op_bind_no hu (nI b))
theorem kw_pass (R : kb_M) (n : Int32) : ∃ x, (kr_pass R n).1 = some (.inl x) := by
  unfold kr_pass
  by_cases hc : 1 ≤ n ∧ n ≤ 50
  · exact ⟨_, by rw [if_pos hc]⟩
  · exact ⟨-1, by rw [if_neg hc]⟩
theorem ow_pass {N : Nat} {C R : kb_M} (h : ki_V N C R) (hN : N ≤ 600) (n : Int32) : kw_P N kz_BK_pass kz_Model_pass [.inl n] C R := kw_of (kw_pass R n) (cr_pass h.1.1 n) (op_pass h hN n)
