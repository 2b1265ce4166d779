/-! appendWord against the reference's append: all cases -/
set_option maxHeartbeats 1000000 in
theorem op_appendWord {N B : Nat} {C R : kb_M} (h : ki_Z N B C R) (hN : N ≤ 600) (hB : B + 20 < 2 ^ 30) {a f : Nat} (ha : a < 2) (hf : f < 6) (w : Int32) : kb_E (kb_en kz_App_appendWord [.inr (some (19 + 7 * a)), .inl (nI f), .inl w] C) (kp_app N B R a f w) := by
  have hR := h.1.1
  have hA := h.1.2.2.2.2.2 a ha
  obtain ⟨L, hL⟩ := hA.2.2.2.1
  obtain ⟨z1, z2⟩ := hR.2.1 (6 * a + f) (by omega)
  have hge := kr_b_ge (R := R) (a := a) (f := f) 6 hf
  have hl : C (20 + 7 * a) f = nI (kr_sz R (6 * a + f)) := (hA.1.1 f hf).trans z1
  have hK : C (19 + 7 * a) 3 = nI a := by
    obtain ⟨-, -, -, k4, k5⟩ := h.2.2.1
    have ha01 : a = 0 ∨ a = 1 := by omega
    rcases ha01 with rfl | rfl
    · exact k4
    · exact k5
  have Sh := ck_share h.1 h.2.2.1 (b := 1) (e := a) (by decide) (by omega)
  have ec : kr_c R a 1 = kr_b R a 6 := by unfold kr_c; rw [if_pos ha, if_neg (by decide)]
  rw [ec, ← hK] at Sh
  have hZ2 : ∀ D S, ki_Z (N + 1) (B + 5) D S → ki_Z (N + 1) (B + 10) D S := fun D S q => kz_mono q (by omega)
  generalize hn : kr_sz R (6 * a + f) = n at *
  by_cases h4 : n % 4 = 0
  · by_cases hb : 6 ≤ kr_b R a 6
    · -- no block to be had
      have eapp : kr_app R a f w = (some (.inl 0), R) := by unfold kr_app; rw [hn, if_pos ⟨h4, hb⟩]
      have G := cq_room1 ha hf C hl z2 h4 (fun _ => by rw [if_pos hb] at Sh; exact Sh)
      refine cq_append (n := n) ha hf C w G (fun v M hq => ?_)
      cases hq
      exact Or.inl ⟨rfl, 0, Or.inl rfl, rfl, by rw [eapp], by rw [eapp]; exact kz_mono (kz_up h) (by omega)⟩
    · -- a new block
      have eapp : kr_app R a f w = (some (.inl 1), kr_ch (kr_a2 R a f) a f n w) := by unfold kr_app; rw [hn, if_neg (fun q => hb q.2)]
      have hn24 : n < 24 := by omega
      rw [if_neg hb] at Sh
      have W := ck_bindApp h (by omega) ha (b := 1) (by decide) (by rw [ec]; omega)
      rw [← hK] at W
      have G := cq_room2 (Q := fun q => ∃ r D, r < 24 ∧ D 7 r = -1 ∧ ki_Z N (B + 5) D (kr_cm R 1) ∧ D (20 + 7 * a) = C (20 + 7 * a) ∧ q = (some (.inl 1), kb_up (kx_bn D 1 r (nI a)) (21 + 7 * a) (6 * f + n / 4) (nI r))) ha hf C hl hn24 h4 Sh W (fun v M hq => by
        obtain ⟨r, D, r1, r2, d1, d2, e⟩ := hq
        rw [hK] at e
        cases e
        exact ⟨r, by omega, rfl, r, D, by omega, r2, d1, d2 _ (by omega) (by omega) (by omega) (by omega) (by omega) (by omega) (by omega) (by omega) (by omega), rfl⟩)
      refine cq_append (n := n) ha hf C w G (fun v M hq => ?_)
      obtain ⟨r, D, r1, r2, d1, d2, e⟩ := hq
      cases e
      have s35 : (kr_cm R 1) 35 = R 35 := kr_cm_ne R 1 (by decide) (by decide) (by decide) (by decide)
      have hsz : kr_sz (kr_cm R 1) (6 * a + f) = n := by unfold kr_sz; rw [s35]; exact hn
      have Z := kz_blk d1 ha hf hsz hn24 h4 (by rw [kr_b_eq s35]; omega) r1 r2
      have ea2 : kb_up (kr_cm R 1) 35 (6 * a + f) (nI (n + 1)) = kr_a2 R a f := by unfold kr_a2 kr_a1; rw [hn, if_pos h4]
      rw [ea2] at Z
      have hi : n < kr_sz (kb_up (kr_a2 R a f) 34 (144 * a + 24 * f + n) 0) (6 * a + f) := by
        unfold kr_sz
        rw [kb_up_ne _ _ _ (by decide), ← ea2, kb_up_at, pk_us, nI_clamp (by omega)]
        omega
      refine Or.inr ⟨rfl, ?_, _, op_open Z hN (by omega) ha hf hi, fun v2 M2 hq2 => ?_⟩
      · unfold kx_bn
        rw [kb_up_ne _ _ _ (by omega), kb_ro_ne _ _ (by omega), kb_up_ne _ _ _ (by omega), d2]
        exact hl
      · obtain ⟨s, y1, y2, y3⟩ := ko_change ha hf hi hq2 w
        rw [kc_ch] at y3
        refine ⟨s, y1, y2, kb_E_imp y3 (fun q hq => ⟨hq.1, 1, Or.inr rfl, hq.1, by rw [eapp], by rw [eapp]; exact hq.2⟩)⟩
  · have hn24 : n < 24 := by omega
    have eapp : kr_app R a f w = (some (.inl 1), kr_ch (kr_a2 R a f) a f n w) := by unfold kr_app; rw [hn, if_neg (fun q => h4 q.1)]
    have ea2 : kr_a2 R a f = kb_up R 35 (6 * a + f) (nI (n + 1)) := by unfold kr_a2 kr_a1; rw [hn, if_neg h4]
    have G := cq_room0 ha hf C hl hn24 h4
    refine cq_append (n := n) ha hf C w G (fun v M hq => ?_)
    cases hq
    refine Or.inr ⟨rfl, hl, ?_⟩
    cases hfi : kr_fi R a (nI (6 * f + n / 4)) (kr_fr R a) with
    | some j =>
      obtain ⟨Q2, o1, o2⟩ := op_appendHit h hN ha hf hn hn24 h4 hfi w
      refine ⟨Q2, o1, fun v2 M2 hq2 => ?_⟩
      obtain ⟨s, y1, y2, y3⟩ := o2 v2 M2 hq2
      exact ⟨s, y1, y2, kb_E_imp y3 (fun q hq => ⟨hq.1, 1, Or.inr rfl, hq.1, by rw [eapp], by rw [eapp, ea2]; exact hZ2 _ _ hq.2⟩)⟩
    | none =>
      have hno := kr_fi_no hfi
      obtain ⟨b, b1, b2, b3⟩ := hA.2.2.1.1 f (n / 4) hf (by omega) (by omega)
      have nocache : ∀ s, s < 3 → C (23 + 7 * a + s) 1 ≠ nI (6 * f + n / 4) := by
        intro s hs hp
        by_cases hm : s ∈ L
        · obtain ⟨j, hj⟩ := List.getElem?_of_mem hm
          have := (List.getElem?_eq_some_iff.mp hj).1
          have hlen := hL.1
          exact hno j (by omega) ((hL.2.2.2.2.1 j s hj).1.symm.trans hp)
        · rw [(hL.2.2.2.1 s hs hm).2.1] at hp
          exact nI_m1 (a := 6 * f + n / 4) (by omega) hp.symm
      obtain ⟨Z, -⟩ := kz_len (x := C 8 (4 * b + n % 4)) h ha hL hf hn hn24 h4 (fun r hr hc => by
        have e : b = r := (nI_eq (by omega) (by omega)).mp (b2.symm.trans hc)
        subst e
        exact ⟨fun s r0 hs hp _ _ => absurd hp (nocache s hs), fun _ => rfl⟩)
      rw [← ea2] at Z
      have hi : n < kr_sz (kb_up (kr_a2 R a f) 34 (144 * a + 24 * f + n) (C 8 (4 * b + n % 4))) (6 * a + f) := by
        unfold kr_sz
        rw [kb_up_ne _ _ _ (by decide), ea2, kb_up_at, pk_us, nI_clamp (by omega)]
        omega
      refine ⟨_, op_open Z hN (by omega) ha hf hi, fun v2 M2 hq2 => ?_⟩
      obtain ⟨s, y1, y2, y3⟩ := ko_change ha hf hi hq2 w
      rw [kc_ch] at y3
      exact ⟨s, y1, y2, kb_E_imp y3 (fun q hq => ⟨hq.1, 1, Or.inr rfl, hq.1, by rw [eapp], by rw [eapp]; exact hZ2 _ _ hq.2⟩)⟩
