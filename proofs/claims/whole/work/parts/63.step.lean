/-! one call of the class and one of the reference, in one memory -/
theorem kv_cong {N : Nat} {C D R S : kb_M} (h : ki_V N C R) (hC : ∀ k, k < 33 → D k = C k) (hR : ∀ k, 33 ≤ k → S k = R k) : ki_V N D S := by
  obtain ⟨hok, hst, hH, hN, hG, hA⟩ := h.1
  have J1 : ki_J N D R := by
    refine ⟨hok, hst, fun b hb r hr => ?_, fun b hb e he => ?_, fun g hg => ?_, fun a ha => ?_⟩
    · rw [hC _ (by omega)]
      exact hH b hb r hr
    · rw [hC _ (by omega)]
      exact hN b hb e he
    · exact ki_G_fr (hG g hg) hok hg (fun k h1 h2 => hC k (by omega)) ⟨rfl, fun _ _ => ⟨rfl, rfl, rfl⟩, fun _ _ _ _ => rfl⟩ (kk_rows _ (fun b hb => ⟨hC _ (by omega), hC _ (by omega)⟩))
    · exact ki_A_fr (hA a ha) hok ha (fun k h1 h2 => hC k (by omega)) (fun _ _ _ => rfl) (kk_rows _ (fun b hb => ⟨hC _ (by omega), hC _ (by omega)⟩))
  have J2 : ki_J N D S := kj_R J1 (fun k h1 _ _ => hR k (by omega))
  have s33 := hR 33 (by omega)
  have e19 := hC 19 (by omega)
  have e26 := hC 26 (by omega)
  obtain ⟨x0, x1⟩ := h.2.2.2.2
  exact kz_V.mpr (kz_cnt (kz_V.mp h) J2 (hC 1 (by omega)) (hC 3 (by omega)) (hC 6 (by omega)) (fun k h1 h2 => hC k (by omega)) (by rw [e19]) (by rw [e26]) (by rw [e19, e26, s33]; exact x0) (by rw [e19, e26, s33]; exact x1) (by rw [s33]) (hR 39 (by omega)) (hR 40 (by omega)) (hR 42 (by omega)) (hR 43 (by omega)))
theorem kg_blt {k : Nat} : Nat.blt k 33 = true ↔ k < 33 := ⟨fun h => Nat.le_of_ble_eq_true h, fun h => Nat.ble_eq_true_of_le h⟩
/-- what the law's turn needs: both answer v, and the memory behind both is tied again -/
theorem kw_step {N z y : Nat} {A : List kb_v} {M : kb_M} (h : ki_V N M M) (hA : ∀ v ∈ A, ∃ x, v = .inl x) (H : ∀ R, ki_V N M R → kw_P N z y A M R) : ∃ v M1 S, kb_E (kb_en z (.inr (some 0) :: A) M) (fun q => q = (some (.inl v), M1)) ∧ kb_E (kb_en y (.inr (some 33) :: A) M1) (fun q => q = (some (.inl v), S)) ∧ ki_V (N + 1) S S := by
  have ai : ∀ g, kg_S g A := fun g v hv => by
    obtain ⟨x, rfl⟩ := hA v hv
    exact kg_i g x
  have a0 : kg_S true (.inr (some 0) :: A) := kg_c.mpr ⟨fun c hc => by cases hc; rfl, ai true⟩
  have a1 : kg_S false (.inr (some 33) :: A) := kg_c.mpr ⟨fun c hc => by cases hc; rfl, ai false⟩
  obtain ⟨v0, S0, -, hc0⟩ := H M h
  obtain ⟨r, hr, ⟨-, hm⟩, -⟩ := kb_E_one (kg_E hc0 a0) hc0
  have hm : ∀ k, 33 ≤ k → r.2 k = M k := fun k hk => hm k (fun q => by
    have := kg_blt.mp q
    omega)
  obtain ⟨v, S, hs, hc⟩ := H r.2 (kv_cong h (fun _ _ => rfl) hm)
  obtain ⟨r', hr', ⟨e1, hV⟩, e2⟩ := kb_E_one hc hr
  subst e2
  obtain ⟨r2, hr2, ⟨e3, hm2⟩, -⟩ := kb_E_one (kg_E hs a1) hs
  subst e3
  have hm2 : ∀ k, k < 33 → S k = r'.2 k := fun k hk => hm2 k (fun q => by
    have : Nat.blt k 33 = true := kg_blt.mpr hk
    rw [q] at this
    cases this)
  refine ⟨v, r'.2, S, kb_E_imp hr' (fun q hq => ?_), hs, kv_cong hV hm2 (fun _ _ => rfl)⟩
  rw [hq, ← e1]
