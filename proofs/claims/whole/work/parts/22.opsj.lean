/-! bind and pass as the law calls them; what an application does when it must wait -/
set_option maxRecDepth 100000 in
theorem op_bind {N : Nat} {C R : kb_M} (h : ki_V N C R) (hN : N ≤ 600) {g b : Nat} (hg : g < 2) (hb : b < 2) : kb_E (kb_en kz_BK_bind [.inr (some 0), .inl (nI (2 + g)), .inl (nI b)] C) (fun q => q.1 = (kr_bind R g b).1 ∧ ki_V N q.2 (kr_bind R g b).2) := by
  refine kb_go 20 [] ?_
  refine kb_E_then (op_bindG h hN hg hb) (fun v M hq => ?_)
  have hv : ∃ y, (kr_bind R g b).1 = some (.inl y) := by
    unfold kr_bind
    split
    · exact ⟨_, rfl⟩
    · split
      · split
        · exact ⟨_, rfl⟩
        · exact ⟨_, rfl⟩
      · exact ⟨_, rfl⟩
  obtain ⟨y, hy⟩ := hv
  obtain ⟨q1, q2⟩ := hq
  dsimp only at q1 q2
  rw [hy] at q1 ⊢
  subst q1
  exact And.intro rfl ⟨rfl, q2⟩
set_option maxRecDepth 100000 in
theorem op_bind_no {C : kb_M} {u : Int32} (hu : ¬ (2 ≤ u ∧ u ≤ 3)) (b : Int32) : kb_E (kb_en kz_BK_bind [.inr (some 0), .inl u, .inl b] C) (fun q => q = (some (.inl (-1)), C)) := by
  have K : kb_E (kb_en kz_Kernel_bindForGuest [.inr (some 1), .inl u, .inl b] C) (fun q => q = (some (.inl (-1)), C)) := by
    refine kb_go 20 [] ?_
    refine kb_E_to (ck_guestOf_no C hu) ?_
    exact And.intro rfl rfl
  refine kb_go 20 [] ?_
  exact kb_E_to K (And.intro rfl rfl)
theorem kr_mv_rows (R : kb_M) (t : Int32) : kr_mv R t 33 0 = t ∧ kr_mv R t 33 1 = R 33 1 ∧ kr_mv R t 33 2 = R 33 2 ∧ kr_mv R t 40 0 = R 40 0 + nI (kr_k R t 0 (kr_bd R 0)) := by
  have e33 : kr_mv R t 33 = upd (R 33) 0 t := by
    unfold kr_mv kr_m0
    rw [kr_mg_ne _ _ _ _ (by decide) (by decide), kr_mg_ne _ _ _ _ (by decide) (by decide), kb_up_at]
  have e0 : kr_k (kb_up R 33 0 t) t 0 (kr_bd R 0) = kr_k R t 0 (kr_bd R 0) := kr_k_eq _ (fun j _ _ => ⟨by rw [kb_up_ne _ _ _ (by decide)], by rw [kb_up_ne _ _ _ (by decide)]⟩)
  refine ⟨by rw [e33]; exact pk_us, by rw [e33]; exact pk_un (by decide), by rw [e33]; exact pk_un (by decide), ?_⟩
  unfold kr_mv
  rw [kr_mg_40, pk_un (by decide)]
  unfold kr_m0
  rw [kr_mg_40, pk_us, e0, kb_up_ne _ _ _ (by decide)]
theorem kr_mv_40 {R : kb_M} (hR : kr_ok R) (t : Int32) : kr_mv R t 40 1 = R 40 1 + nI (kr_k R t 1 (kr_bd R 1)) := by
  have e1 : kr_k (kr_m0 R t) t 1 (kr_bd R 1) = kr_k R t 1 (kr_bd R 1) := kr_k_eq _ (fun j h1 _ => ⟨by unfold kr_m0; rw [kr_mg_42, if_neg (by have := (hR.1 0 (by decide)).2; omega), kb_up_ne _ _ _ (by decide)], by unfold kr_m0; rw [kr_mg_ne _ _ _ _ (by decide) (by decide), kb_up_ne _ _ _ (by decide)]⟩)
  unfold kr_mv
  rw [kr_mg_40, pk_us, e1]
  unfold kr_m0
  rw [kr_mg_40, pk_un (by decide), kb_up_ne _ _ _ (by decide)]
/-- a ticket after the time has moved -/
theorem kr_mv_42 {R : kb_M} (hR : kr_ok R) (t : Int32) {g u : Nat} (hg : g < 2) (hu : u < kr_bd R g) : kr_mv R t 42 (60 * g + u) = if R 42 (60 * g + u) = 3 ∧ R 43 (60 * g + u) ≤ t then 1 else R 42 (60 * g + u) := by
  have h0 := (hR.1 0 (by decide)).2
  have h1 := (hR.1 1 (by decide)).2
  unfold kr_mv
  rw [kr_mg_42]
  have m42 : ∀ j, (kr_m0 R t) 42 j = if 60 * 0 ≤ j ∧ j < 60 * 0 + kr_bd R 0 ∧ R 42 j = 3 ∧ R 43 j ≤ t then 1 else R 42 j := by
    intro j
    unfold kr_m0
    rw [kr_mg_42, kb_up_ne _ _ _ (show (42 : Nat) ≠ 33 by decide), kb_up_ne _ _ _ (show (43 : Nat) ≠ 33 by decide)]
  have m43 : (kr_m0 R t) 43 = R 43 := by
    unfold kr_m0
    rw [kr_mg_ne _ _ _ _ (by decide) (by decide), kb_up_ne _ _ _ (by decide)]
  rw [m43, m42]
  match g, hg with
  | 0, _ =>
    rw [if_neg (by omega)]
    by_cases hc : R 42 (60 * 0 + u) = 3 ∧ R 43 (60 * 0 + u) ≤ t
    · rw [if_pos ⟨by omega, by omega, hc⟩, if_pos hc]
    · rw [if_neg (fun q => hc q.2.2), if_neg hc]
  | 1, _ =>
    have e : (if 60 * 0 ≤ 60 * 1 + u ∧ 60 * 1 + u < 60 * 0 + kr_bd R 0 ∧ R 42 (60 * 1 + u) = 3 ∧ R 43 (60 * 1 + u) ≤ t then (1 : Int32) else R 42 (60 * 1 + u)) = R 42 (60 * 1 + u) := if_neg (by omega)
    rw [e]
    by_cases hc : R 42 (60 * 1 + u) = 3 ∧ R 43 (60 * 1 + u) ≤ t
    · rw [if_pos ⟨by omega, by omega, hc⟩, if_pos hc]
    · rw [if_neg (fun q => hc q.2.2), if_neg hc]
theorem ku_mv {B n m : Nat} {R : kb_M} (hR : kr_ok R) (h1 : R 33 0 = nI n) (h3 : ∀ g t, g < 2 → t < kr_bd R g → R 42 (60 * g + t) = 3 → ∃ d, R 43 (60 * g + t) = nI d ∧ n < d ∧ d ≤ n + 5) (hm : n ≤ m) (hB : m ≤ B) (hB2 : B < 2 ^ 30) : ki_U B (kr_mv R (nI m)) := by
  refine ⟨m, (kr_mv_rows R (nI m)).1, hB, fun g t hg ht hs => ?_⟩
  have e39 : kr_mv R (nI m) 39 = R 39 := kr_mv_ne R _ (by decide) (by decide) (by decide)
  have e43 : kr_mv R (nI m) 43 = R 43 := kr_mv_ne R _ (by decide) (by decide) (by decide)
  unfold kr_bd at ht
  rw [e39] at ht
  rw [kr_mv_42 hR _ hg ht] at hs
  rw [e43]
  by_cases hc : R 42 (60 * g + t) = 3 ∧ R 43 (60 * g + t) ≤ nI m
  · rw [if_pos hc] at hs
    exact absurd hs (by decide)
  · rw [if_neg hc] at hs
    obtain ⟨d, d1, d2, d3⟩ := h3 g t hg ht hs
    refine ⟨d, d1, ?_, by omega⟩
    have h4 : ¬ R 43 (60 * g + t) ≤ nI m := fun q => hc ⟨hs, q⟩
    rw [d1, nI_leI (by omega) (by omega)] at h4
    omega
/-- what moveTimeTo leaves, as ck_moveTimeTo says it, ties again -/
theorem kz_mv {N B B' n m : Nat} {C D R : kb_M} (h : ki_Z N B C R) (h1 : R 33 0 = nI n) (h3 : ∀ g t, g < 2 → t < kr_bd R g → R 42 (60 * g + t) = 3 → ∃ d, R 43 (60 * g + t) = nI d ∧ n < d ∧ d ≤ n + 5) (hm : n ≤ m) (hB : m ≤ B') (hB2 : B' < 2 ^ 30) (J : ki_J N D (kr_mv R (nI m))) (d0 : ∀ k, k ≠ 1 → k ≠ 4 → k ≠ 7 → k ≠ 9 → k ≠ 14 → k ≠ 12 → k ≠ 17 → D k = C k) (d1 : D 1 = upd (C 1) 0 (nI m)) (d9 : D 9 = upd (C 9) 0 (C 9 0 + nI (kr_k R (nI m) 0 (kr_bd R 0)))) (d14 : D 14 = upd (C 14) 0 (C 14 0 + nI (kr_k R (nI m) 1 (kr_bd R 1)))) : ki_Z N B' D (kr_mv R (nI m)) := by
  obtain ⟨hJ, -, ⟨k1, k2, k3, k4, k5⟩, hL, ⟨x1, x2⟩⟩ := h
  obtain ⟨r0, r1, r2, r3⟩ := kr_mv_rows R (nI m)
  have e3 := d0 3 (by decide) (by decide) (by decide) (by decide) (by decide) (by decide) (by decide)
  have e6 := d0 6 (by decide) (by decide) (by decide) (by decide) (by decide) (by decide) (by decide)
  have e19 := d0 19 (by decide) (by decide) (by decide) (by decide) (by decide) (by decide) (by decide)
  have e26 := d0 26 (by decide) (by decide) (by decide) (by decide) (by decide) (by decide) (by decide)
  refine ⟨J, ku_mv hJ.1 h1 h3 hm hB hB2, ⟨by rw [d1, r0]; exact pk_us, by rw [e3]; exact k2, by rw [e6]; exact k3, by rw [e19]; exact k4, by rw [e26]; exact k5⟩, fun g hg => ?_, by rw [e19, e26, r2]; exact x1, by rw [e19, e26, r1]; exact x2⟩
  match g, hg with
  | 0, _ =>
    show D 9 0 = _
    rw [d9, r3, ← hL 0 (by decide)]
    exact pk_us
  | 1, _ =>
    show D 14 0 = _
    rw [d14, kr_mv_40 hJ.1, ← hL 1 (by decide)]
    exact pk_us
def kr_pass (R : kb_M) (n : Int32) : kb_R := if 1 ≤ n ∧ n ≤ 50 then (some (.inl (nI (kr_k R (R 33 0 + n) 0 (kr_bd R 0) + kr_k R (R 33 0 + n) 1 (kr_bd R 1)))), kr_mv R (R 33 0 + n)) else (some (.inl (-1)), R)
theorem kv_up {N : Nat} {C R : kb_M} (h : ki_V N C R) : ki_V (N + 1) C R := by
  obtain ⟨⟨hR, hst, hH, hN, hG, hA⟩, ⟨n, n1, n2, n3⟩, hK, hL, hX⟩ := h
  refine ⟨⟨hR, hst, hH, hN, hG, fun a ha => ?_⟩, ⟨n, n1, by omega, n3⟩, hK, hL, hX⟩
  obtain ⟨a1, ⟨u, u1, u2⟩, a3, a4, a5⟩ := hA a ha
  exact ⟨a1, ⟨u, u1, by omega⟩, a3, a4, a5⟩
set_option maxRecDepth 100000 in
theorem op_pass {N : Nat} {C R : kb_M} (h : ki_V N C R) (hN : N ≤ 600) (n : Int32) : kb_E (kb_en kz_BK_pass [.inr (some 0), .inl n] C) (fun q => q.1 = (kr_pass R n).1 ∧ ki_V (N + 1) q.2 (kr_pass R n).2) := by
  unfold kr_pass
  by_cases hn : 1 ≤ n ∧ n ≤ 50
  · rw [if_pos hn]
    have h0 : ¬ n < 0 := fun q => by
      have : (1 : Int32) < 0 := Int32.lt_of_le_of_lt hn.1 q
      exact absurd this (by decide)
    obtain ⟨k, hk, rfl⟩ := nI_of h0
    have k50 : k ≤ 50 := (nI_leI hk (by omega)).mp (show nI k ≤ nI 50 from hn.2)
    have k1 : 1 ≤ k := (nI_leI (a := 1) (by omega) hk).mp (show nI 1 ≤ nI k from hn.1)
    have h' := kv_up h
    obtain ⟨m, m1, m2, m3⟩ := h.2.1
    have et : R 33 0 + nI k = nI (m + k) := by rw [m1, nI_add]
    have ec : C 1 0 + nI k = nI (m + k) := by rw [h.2.2.1.1, et]
    rw [et]
    have MV := ck_moveTimeTo h'.1 (nI (m + k))
    refine kb_go 40 [] ?_
    refine And.intro (fun h => ?_) (fun _ => ?_)
    · have h : nI k < 1 := of_decide_eq_true h
      exact absurd hn.1 (Int32.not_le.mpr h)
    · refine And.intro (fun h => ?_) (fun _ => ?_)
      · have h : 50 < nI k := of_decide_eq_true h
        exact absurd hn.2 (Int32.not_le.mpr h)
      · show kb_E (kb_en kz_Kernel_moveTimeTo [.inr (some 1), .inl (C 1 0 + nI k)] C) _
        rw [ec]
        refine kb_E_then MV (fun v M hq => ?_)
        obtain ⟨q1, q2, q3, q4, q5, q6⟩ := hq
        dsimp only at q1 q2 q3 q4 q5 q6
        subst q1
        exact And.intro rfl ⟨rfl, kz_mv (B := 55 * (N + 1)) h' m1 m3 (by omega) (by omega) (by omega) q2 q3 q4 q5 q6⟩
  · rw [if_neg hn]
    refine kb_go 40 [] ?_
    refine And.intro (fun _ => And.intro rfl ⟨rfl, kv_up h⟩) (fun h1 => ?_)
    have h1 : ¬ n < 1 := of_decide_eq_false h1
    refine And.intro (fun _ => And.intro rfl ⟨rfl, kv_up h⟩) (fun h2 => ?_)
    have h2 : ¬ 50 < n := of_decide_eq_false h2
    exact absurd ⟨Int32.not_lt.mp h1, Int32.not_lt.mp h2⟩ hn
