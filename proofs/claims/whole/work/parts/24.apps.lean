/-! an application binds; its leaves in plain words -/
theorem ku_dl {B : Nat} {R : kb_M} (h : ki_U B R) (hB : B + 5 < 2 ^ 30) : kr_dl R := by
  obtain ⟨n, -, h2, h3⟩ := h
  intro g t hg ht hs
  obtain ⟨d, d1, d2, d3⟩ := h3 g t hg ht hs
  exact ⟨d, by omega, d1⟩
set_option maxRecDepth 100000 in
set_option maxHeartbeats 4000000 in
theorem ck_bindApp {N B : Nat} {C R : kb_M} (h : ki_Z N B C R) (hB : B + 10 < 2 ^ 30) {a b : Nat} (ha : a < 2) (hb : b < 2) (hsh : kr_c R a b < 3 + 3 * b) : kb_E (kb_en kz_Kernel_bindForApplication [.inr (some 1), .inl (nI a), .inl (nI b)] C) (fun q => ∃ r D, r < 12 + 12 * b ∧ D (4 + 3 * b) r = -1 ∧ ki_Z N (B + 5) D (kr_cm R b) ∧ (∀ k, k ≠ 1 → k ≠ 4 → k ≠ 7 → k ≠ 9 → k ≠ 12 → k ≠ 13 → k ≠ 14 → k ≠ 17 → k ≠ 18 → D k = C k) ∧ q = (some (.inl (nI r)), kx_bn D b r (nI a))) := by
  have up : ∀ D S, ki_Z N B D S → ki_Z N (B + 5) D S := by
    rintro D S ⟨h1, ⟨n, n1, n2, n3⟩, h3⟩
    exact ⟨h1, ⟨n, n1, by omega, n3⟩, h3⟩
  have CL := ck_claim h.1 h.2.2.1 (ku_dl h.2.1 (by omega)) hb (e := a) (by omega)
  refine kb_go 60 [] ?_
  refine kb_E_then CL (fun v M hq => ?_)
  rcases hq with ⟨r, r1, r2, e⟩ | ⟨f1, f2, e⟩ | ⟨f1, f2, q1, q2, q3⟩
  · cases e
    have hf := kx_some h.1 hb r1 r2
    have ecm : kr_cm R b = R := by unfold kr_cm; rw [if_neg hf]
    refine And.intro (fun _ => ?_) (fun h => ?_)
    · refine And.intro rfl ⟨r, C, r1, r2, by rw [ecm]; exact up _ _ h, fun _ _ _ _ _ _ _ _ _ _ => rfl, ?_⟩
      show (some (Sum.inl (if nI r < Int32.ofInt (-1) then Int32.ofInt (-1) else nI r)), _) = _
      rw [if_neg (fun q => nI_pos (n := r) (by omega) (Int32.lt_trans q (by decide)))]
    · have h : nI r = (Int8.ofInt (-3)).toInt32 := Classical.not_not.mp (of_decide_eq_false h)
      exact absurd (h ▸ nI_pos (n := r) (by omega) : ¬ (Int8.ofInt (-3)).toInt32 < 0) (by decide)
  · omega
  · dsimp only at q1 q2 q3
    subst q1
    refine And.intro (fun h => absurd h (by decide)) (fun _ => ?_)
    have hn : ∀ r, r < 12 + 12 * b → C (4 + 3 * b) r ≠ -1 := by
      intro r hr hc
      exact kx_some h.1 hb hr hc f1
    obtain ⟨g, u, d, hdd, g1, u1, u2, u3, u4, u5⟩ := kx_asked (D := C) h (by omega) ha hb hsh hn
    have hZ := kz_wi h q2 q3
    have ecm : kr_cm R b = kr_mv (kr_wi R (nI b)) (nI d) := by unfold kr_cm; rw [if_pos f1, u5]
    have E := ck_earliest q2 (ku_dl hZ.2.1 (by omega)) (b := b)
    refine kb_E_then E (fun v2 M2 hq2 => ?_)
    obtain ⟨k, hk, e2⟩ := hq2
    cases e2
    have hkd : k = d := by
      rcases hk with ⟨-, hk⟩ | ⟨hk1, hk2⟩
      · rw [u5] at hk
        exact absurd (hk ▸ nI_pos (n := d) (by omega) : ¬ (-1 : Int32) < 0) (by decide)
      · rw [u5, nI_eq (by omega) (by omega)] at hk2
        exact hk2.symm
    subst hkd
    refine kb_E_then (ck_moveTimeTo q2 (nI k)) (fun v3 M3 hq3 => ?_)
    obtain ⟨p1, p2, p3, p4, p5, p6⟩ := hq3
    dsimp only at p1 p2 p3 p4 p5 p6
    subst p1
    obtain ⟨m, m1, m2, m3⟩ := hZ.2.1
    obtain ⟨d', e1, e2, e3⟩ := m3 g u g1 u1 u2
    have hkd' : k = d' := (nI_eq (by omega) (by omega)).mp (u4.symm.trans e1)
    have hZ3 : ki_Z N (B + 5) M3 (kr_mv (kr_wi R (nI b)) (nI k)) := kz_mv (B := B) hZ m1 m3 (by omega) (by omega) (by omega) p2 p3 p4 p5 p6
    refine kb_E_to (ck_poolOf M3 hb) ?_
    have F := ck_free (C := M3) hb (nI a)
    have rows : ∀ k, k ≠ 1 → k ≠ 4 → k ≠ 7 → k ≠ 9 → k ≠ 12 → k ≠ 13 → k ≠ 14 → k ≠ 17 → k ≠ 18 → M3 k = C k := by
      intro k h1 h2 h3 h4 h5 h6 h7 h8 h9
      rw [p3 k h1 h2 h3 h4 h7 h5 h8, q3 k h5 h6 h8 h9]
    have step : kb_E (kb_en kz_Pool_bindFreeOne [.inr (some (3 + 3 * b)), .inl (nI a)] M3) (fun q => ∃ r, r < 12 + 12 * b ∧ M3 (4 + 3 * b) r = -1 ∧ q = (some (.inl (nI r)), kx_bn M3 b r (nI a))) := by
      refine kb_E_imp F (fun q hq => ?_)
      rcases hq with hq | ⟨hno, -⟩
      · exact hq
      · exact (kx_freed q2 hb (fun r hr => by rw [q3 (4 + 3 * b) (by omega) (by omega) (by omega) (by omega)]; exact hn r hr) g1 u1 u2 u3 (by rw [u4]; exact Int32.le_refl _) p2 hno).elim
    have last : ∀ r, r < 12 + 12 * b → (if nI r < Int32.ofInt (-1) then Int32.ofInt (-1) else nI r) = nI r := fun r hr => if_neg (fun q => nI_pos (n := r) (by omega) (Int32.lt_trans q (by decide)))
    have hb01 : b = 0 ∨ b = 1 := by omega
    rcases hb01 with rfl | rfl
    · refine kb_E_then step (fun v4 M4 hq4 => ?_)
      obtain ⟨r, r1, r2, e⟩ := hq4
      cases e
      refine And.intro rfl ⟨r, M3, r1, r2, by rw [ecm]; exact hZ3, rows, ?_⟩
      show (some (Sum.inl (if nI r < Int32.ofInt (-1) then Int32.ofInt (-1) else nI r)), _) = _
      rw [last r r1]
    · refine kb_E_then step (fun v4 M4 hq4 => ?_)
      obtain ⟨r, r1, r2, e⟩ := hq4
      cases e
      refine And.intro rfl ⟨r, M3, r1, r2, by rw [ecm]; exact hZ3, rows, ?_⟩
      show (some (Sum.inl (if nI r < Int32.ofInt (-1) then Int32.ofInt (-1) else nI r)), _) = _
      rw [last r r1]
