/-! openPartOf against the reference's open -/
theorem kz_up {N B : Nat} {C R : kb_M} (h : ki_Z N B C R) : ki_Z (N + 1) (B + 5) C R := by
  obtain ⟨h1, ⟨n, n1, n2, n3⟩, h3⟩ := h
  exact ⟨kj_N h1, ⟨n, n1, by omega, n3⟩, h3⟩
theorem ka_fl_rows (M : kb_M) (c z r w : Nat) (p : Int32) (hcz : c ≠ z) (hc : 19 ≤ c) (hz : 19 ≤ z) : (ka_fin (ka_ld M c z r w p) c z) 5 = va_cpy (M 8) (M 5) (4 * w) (4 * r) 4 ∧ (ka_fin (ka_ld M c z r w p) c z) z = upd (upd (upd (M z) 1 p) 3 0) 2 (M c 7 + 1) ∧ (ka_fin (ka_ld M c z r w p) c z) c = upd (upd (M c) 0 (M c 0 + 1)) 7 (M c 7 + 1) ∧ (∀ k, k ≠ 5 → k ≠ c → k ≠ z → (ka_fin (ka_ld M c z r w p) c z) k = M k) := by
  have e5 : (ka_ld M c z r w p) 5 = va_cpy (M 8) (M 5) (4 * w) (4 * r) 4 := by unfold ka_ld kp_cp; rw [kb_up_ne _ _ _ (by omega), kb_up_ne _ _ _ (by omega), kb_up_ne _ _ _ (by omega), kb_ro_at]
  have ez : (ka_ld M c z r w p) z = upd (upd (M z) 1 p) 3 0 := by unfold ka_ld kp_cp; rw [kb_up_ne _ _ _ (fun q => hcz q.symm), kb_up_at, kb_up_at, kb_ro_ne _ _ (by omega)]
  have ec : (ka_ld M c z r w p) c = upd (M c) 0 (M c 0 + 1) := by unfold ka_ld kp_cp; rw [kb_up_at, kb_up_ne _ _ _ hcz, kb_up_ne _ _ _ hcz, kb_ro_ne _ _ (by omega)]
  have en : ∀ k, k ≠ 5 → k ≠ c → k ≠ z → (ka_ld M c z r w p) k = M k := fun k q1 q2 q3 => by unfold ka_ld kp_cp; rw [kb_up_ne _ _ _ q2, kb_up_ne _ _ _ q3, kb_up_ne _ _ _ q3, kb_ro_ne _ _ q1]
  unfold ka_fin
  rw [ec, show upd (M c) 0 (M c 0 + 1) 7 = M c 7 from pk_un (by decide)]
  refine ⟨?_, ?_, ?_, fun k q1 q2 q3 => ?_⟩
  · rw [kb_up_ne _ _ _ (by omega), kb_up_ne _ _ _ (by omega), e5]
  · rw [kb_up_at, kb_up_ne _ _ _ (fun q => hcz q.symm), ez]
  · rw [kb_up_ne _ _ _ hcz, kb_up_at, ec]
  · rw [kb_up_ne _ _ _ q3, kb_up_ne _ _ _ q2, en k q1 q2 q3]
theorem ka_sum {C D : kb_M} {a : Nat} (ha : a < 2) {k : Nat} (h1 : D (19 + 7 * a) k = C (19 + 7 * a) k + 1) (h2 : ∀ o, o < 2 → o ≠ a → D (19 + 7 * o) k = C (19 + 7 * o) k) : D 19 k + D 26 k = C 19 k + C 26 k + 1 := by
  have ha01 : a = 0 ∨ a = 1 := by omega
  rcases ha01 with rfl | rfl
  · have e1 : D 19 k = C 19 k + 1 := h1
    have e2 : D 26 k = C 26 k := h2 1 (by decide) (by decide)
    rw [e1, e2, Int32.add_assoc, Int32.add_comm 1, ← Int32.add_assoc]
  · have e1 : D 26 k = C 26 k + 1 := h1
    have e2 : D 19 k = C 19 k := h2 0 (by decide) (by decide)
    rw [e1, e2, ← Int32.add_assoc]
theorem ka_same {C D : kb_M} {a : Nat} (ha : a < 2) {k : Nat} (h1 : D (19 + 7 * a) k = C (19 + 7 * a) k) (h2 : ∀ o, o < 2 → o ≠ a → D (19 + 7 * o) k = C (19 + 7 * o) k) : D 19 k = C 19 k ∧ D 26 k = C 26 k := by
  have ha01 : a = 0 ∨ a = 1 := by omega
  rcases ha01 with rfl | rfl
  · exact ⟨h1, h2 1 (by decide) (by decide)⟩
  · exact ⟨h2 0 (by decide) (by decide), h1⟩
/-- a load, given by its memory before (M) and the tied picture of it without the part (C', R') -/
theorem kz_load {N B : Nat} {C' M R' : kb_M} (h : ki_Z N B C' R') (hN : N ≤ 600) {a : Nat} (ha : a < 2) {L : List Nat} (hL : ki_B C' R' a L) {s r f p w : Nat} (hs : s < 3) (hsn : s ∉ L) (hn : kr_fr R' a < 3) (hr : r < 12) (hfree : C' 4 r = -1) (hf : f < 6) (hp : p < 6) (hval : 4 * p < kr_sz R' (6 * a + f)) (hw : w < 24) (hb : C' (21 + 7 * a) (6 * f + p) = nI w) (hno : ∀ j, j < kr_fr R' a → R' 36 (3 * a + j) ≠ nI (6 * f + p))
    (m4 : M 4 = upd (C' 4) r (nI a)) (m5 : ∀ q, q / 4 ≠ r → M 5 q = C' 5 q) (mz : M (23 + 7 * a + s) 0 = nI r) (mn : ∀ k, k ≠ 4 → k ≠ 5 → k ≠ 23 + 7 * a + s → M k = C' k) : ki_Z (N + 1) B (ka_fin (ka_ld M (19 + 7 * a) (23 + 7 * a + s) r w (nI (6 * f + p))) (19 + 7 * a) (23 + 7 * a + s)) (kr_ad (kb_up R' 33 2 (R' 33 2 + 1)) a (nI (6 * f + p)) 0) ∧ ki_B (ka_fin (ka_ld M (19 + 7 * a) (23 + 7 * a + s) r w (nI (6 * f + p))) (19 + 7 * a) (23 + 7 * a + s)) (kr_ad (kb_up R' 33 2 (R' 33 2 + 1)) a (nI (6 * f + p)) 0) a (L ++ [s]) := by
  obtain ⟨u, u1, u2⟩ := (h.1.2.2.2.2.2 a ha).2.1
  obtain ⟨r5, rz, rc, rn⟩ := ka_fl_rows M (19 + 7 * a) (23 + 7 * a + s) r w (nI (6 * f + p)) (by omega) (by omega) (by omega)
  obtain ⟨an, a38, a36, a37⟩ := kr_ad_rows (kb_up R' 33 2 (R' 33 2 + 1)) a (nI (6 * f + p)) 0
  have up : ∀ k, k ≠ 33 → (kb_up R' 33 2 (R' 33 2 + 1)) k = R' k := fun k hk => kb_up_ne _ _ _ hk
  have fru : kr_fr (kb_up R' 33 2 (R' 33 2 + 1)) a = kr_fr R' a := by unfold kr_fr; rw [up 38 (by decide)]
  rw [fru] at a36 a37
  rw [up 36 (by decide)] at a36
  rw [up 37 (by decide)] at a37
  rw [up 38 (by decide)] at a38
  generalize hDe : ka_fin (ka_ld M (19 + 7 * a) (23 + 7 * a + s) r w (nI (6 * f + p))) (19 + 7 * a) (23 + 7 * a + s) = D at *
  generalize hSe : kr_ad (kb_up R' 33 2 (R' 33 2 + 1)) a (nI (6 * f + p)) 0 = S at *
  have mc := mn (19 + 7 * a) (by omega) (by omega) (by omega)
  have sn : ∀ k, k ≠ 33 → k ≠ 36 → k ≠ 37 → k ≠ 38 → S k = R' k := fun k q0 q1 q2 q3 => by rw [an k q1 q2 q3, up k q0]
  have s33 : S 33 = upd (R' 33) 2 (R' 33 2 + 1) := by rw [an 33 (by decide) (by decide) (by decide), kb_up_at]
  obtain ⟨J, hB⟩ := ka_in (D := D) (S := S) h.1 hN ha hL (v := u) hs hsn hn hr hfree hf hp hval hw hb hno u1 u2
    (by rw [rn 4 (by omega) (by omega) (by omega)]; exact m4)
    (fun q => by
      rw [r5, mn 8 (by omega) (by omega) (by omega)]
      by_cases hq : q / 4 = r
      · rw [if_pos hq, pk_cpy_in (by omega) (by omega)]
        congr 1
        omega
      · rw [if_neg hq, pk_cpy_out (by omega)]
        exact m5 q hq)
    ⟨by rw [rz, pk_un (by decide), pk_un (by decide), pk_un (by decide)]; exact mz, by rw [rz, pk_un (by decide), pk_un (by decide), pk_us], by rw [rz, pk_us, mc, u1, nI_succ], by rw [rz, pk_un (by decide), pk_us]⟩
    (by rw [rc, pk_us, mc, u1, nI_succ])
    (fun k q1 q2 q3 q4 => by rw [rn k q2 q3 q4, mn k q1 q2 q4])
    (fun k q0 q1 q2 q3 => sn k (by omega) q1 q2 q3) a36 a37 (by rw [a38, (h.1.1.2.2.1 a ha).1, ← nI_succ])
  refine ⟨?_, hB⟩
  have hz1 : ki_Z (N + 1) B C' R' := ⟨kj_N h.1, h.2⟩
  have oth : ∀ o, o < 2 → o ≠ a → ∀ k, D (19 + 7 * o) k = C' (19 + 7 * o) k := fun o ho hoa k => by rw [rn _ (by omega) (by omega) (by omega), mn _ (by omega) (by omega) (by omega)]
  obtain ⟨x0, x1⟩ := h.2.2.2.2
  have e3 := ka_same (D := D) (C := C') ha (k := 3) (by rw [rc, pk_un (by decide), pk_un (by decide), mc]) (fun o ho hoa => oth o ho hoa 3)
  have e1 := ka_same (D := D) (C := C') ha (k := 1) (by rw [rc, pk_un (by decide), pk_un (by decide), mc]) (fun o ho hoa => oth o ho hoa 1)
  have e0 := ka_sum (D := D) (C := C') ha (k := 0) (by rw [rc, pk_un (by decide), pk_us, mc]) (fun o ho hoa => oth o ho hoa 0)
  have dn : ∀ k, k ≠ 4 → k < 5 ∨ (5 < k ∧ k < 19) → D k = C' k := fun k q1 q2 => by rw [rn k (by omega) (by omega) (by omega), mn k q1 (by omega) (by omega)]
  refine kz_cnt hz1 J (dn 1 (by omega) (by omega)) (dn 3 (by omega) (by omega)) (dn 6 (by omega) (by omega)) (fun k q1 q2 => dn k (by omega) (by omega)) e3.1 e3.2 ?_ ?_ ?_ (sn 39 (by decide) (by decide) (by decide) (by decide)) (sn 40 (by decide) (by decide) (by decide) (by decide)) (sn 42 (by decide) (by decide) (by decide) (by decide)) (sn 43 (by decide) (by decide) (by decide) (by decide))
  · rw [e0, s33, pk_us, x0]
  · rw [e1.1, e1.2, s33, pk_un (by decide)]; exact x1
  · rw [s33, pk_un (by decide)]
