/-! openPartOf against the reference's open: the three cases -/
theorem ko_add36 {S : kb_M} (o1 : kr_ok S) {a : Nat} (ha : a < 2) (hn : kr_fr S a < 3) (p : Int32) {d : Int32} (hd : d = 0 ∨ d = 1) : (kr_ad S a p d) 36 (3 * a + kr_fr (kr_ad S a p d) a - 1) = p := by
  obtain ⟨an, a38, a36, a37⟩ := kr_ad_rows S a p d
  rw [(kr_ad_ok o1 ha hn (p := p) hd).2, a36, show 3 * a + (kr_fr S a + 1) - 1 = 3 * a + kr_fr S a by omega]
  exact pk_us
set_option maxHeartbeats 1000000 in
theorem op_open {N B : Nat} {C R : kb_M} (h : ki_Z N B C R) (hN : N ≤ 600) (hB : B + 10 < 2 ^ 30) {a f i : Nat} (ha : a < 2) (hf : f < 6) (hi : i < kr_sz R (6 * a + f)) : kb_E (kb_en kz_App_openPartOf [.inr (some (19 + 7 * a)), .inl (nI f), .inl (nI i)] C) (ko_P (N + 1) (B + 5) (kr_op R a (6 * f + i / 4)) a (6 * f + i / 4)) := by
  have hR := h.1.1
  have hA := h.1.2.2.2.2.2 a ha
  obtain ⟨L, hL⟩ := hA.2.2.2.1
  have hlen := hL.1
  have hle := (hR.2.2.1 a ha).2
  have h24 := (hR.2.1 (6 * a + f) (by omega)).2
  have hi24 : i < 24 := by omega
  have hq : 6 * f + i / 4 < 36 := by omega
  have hltn : nI i < C (19 + 7 * a + 1) f := by
    rw [show 19 + 7 * a + 1 = 20 + 7 * a by omega, hA.1.1 f hf, (hR.2.1 (6 * a + f) (by omega)).1]
    exact nI_lt hi (by omega)
  unfold kr_op
  cases hl : kr_fi R a (nI (6 * f + i / 4)) (kr_fr R a) with
  | some j =>
    obtain ⟨hj, hp⟩ := kr_fi_lt hl
    obtain ⟨s, hs⟩ : ∃ s, L[j]? = some s := ⟨L[j]'(by omega), List.getElem?_eq_getElem (by omega)⟩
    obtain ⟨hs3, hj3, r, -, -, -, g1, g2, -, -, -, -, -, -, -⟩ := ka_slot hA hR ha hL hs
    refine cq_open0 (kq_in ha) C hf hi24 hltn (ka_sf_hit hL hs hq hp) ?_
    refine kb_E_to (cq_tail1 (kq_in ha) (by unfold kq_S; omega) C _ _ (by rw [g2]; exact nI_m1 (by omega)) ((hL.2.2.2.2.1 j s hs).1.trans hp)) ?_
    exact ko_hit h hN ha hL hs hp
  | none =>
    have hno := kr_fi_no hl
    obtain ⟨o1, o2⟩ := kr_o2_ok hR ha
    obtain ⟨m1, m2⟩ := ka_sf_miss hL hq hno
    by_cases h3 : kr_fr R a = 3
    · -- the oldest makes room
      have m2 := m2 (by omega)
      obtain ⟨s, hs⟩ : ∃ s, L[0]? = some s := ⟨L[0]'(by omega), List.getElem?_eq_getElem (by omega)⟩
      rw [hs] at m2
      obtain ⟨hs3, -, r, -, -, -, g1, g2, -, -, -, -, -, -, -⟩ := ka_slot hA hR ha hL hs
      have hp0 : C (23 + 7 * a + s) 1 ≠ nI (6 * f + i / 4) := by
        rw [(hL.2.2.2.2.1 0 s hs).1]
        exact hno 0 (by omega)
      refine cq_open0 (kq_in ha) C hf hi24 hltn m2 ?_
      refine cq_open2 ha hs3 C _ _ (by rw [g2]; exact nI_m1 (by omega)) hp0 (kz_store h ha hL hs) (fun v M hq1 => ?_)
      obtain ⟨q1, q2, q3, q4, q5, q6, q7⟩ := hq1
      dsimp only at q1 q2 q3 q4 q5 q6 q7
      refine ⟨q1, ?_⟩
      have mz : M (23 + 7 * a + s) 0 = nI r := by rw [q6 0 (by decide)]; exact g2
      have c37 : (kr_so R (3 * a + 0)) 37 (3 * a + 0) = 0 := by unfold kr_so; rw [kb_up_at]; exact pk_us
      obtain ⟨hZ, hB2⟩ := kz_out q2 ha q3 hs g1 mz c37
      have e1 : kr_o1 R a = kr_rm (kr_so R (3 * a + 0)) a 0 := by unfold kr_o1; rw [if_pos h3]; rfl
      have e2 : kr_o2 R a = kb_up (kr_rm (kr_so R (3 * a + 0)) a 0) 33 2 ((kr_rm (kr_so R (3 * a + 0)) a 0) 33 2 + 1) := by unfold kr_o2; rw [e1]
      obtain ⟨rn, -, r36, -⟩ := kr_rm_rows (kr_so R (3 * a + 0)) a 0
      have fr2 := (kr_rm_ok (kr_so_ok hR (3 * a + 0)) (j := 0) ha (by rw [kr_so_fr]; omega)).2
      rw [kr_so_fr] at fr2 r36
      have s35 : (kr_rm (kr_so R (3 * a + 0)) a 0) 35 = R 35 := by rw [rn 35 (by decide) (by decide) (by decide), kr_so_ne _ _ (by decide) (by decide)]
      have hval : 4 * (i / 4) < kr_sz (kr_rm (kr_so R (3 * a + 0)) a 0) (6 * a + f) := by
        unfold kr_sz
        rw [s35]
        have : (R 35 (6 * a + f)).toNatClampNeg = kr_sz R (6 * a + f) := rfl
        omega
      obtain ⟨w, w1, w2, w3⟩ := (hZ.1.2.2.2.2.2 a ha).2.2.1.1 f (i / 4) hf (by omega) hval
      have gn : ∀ k, k ≠ 4 → k ≠ 23 + 7 * a + s → (ka_gf M (23 + 7 * a + s) r) k = M k := fun k q1 q2 => by unfold ka_gf; rw [kb_up_ne _ _ _ q2, kb_up_ne _ _ _ q2, kb_up_ne _ _ _ q2, kb_up_ne _ _ _ q1]
      have g4 : (ka_gf M (23 + 7 * a + s) r) 4 = upd (M 4) r (-1) := by unfold ka_gf; rw [kb_up_ne _ _ _ (by omega), kb_up_ne _ _ _ (by omega), kb_up_ne _ _ _ (by omega), kb_up_at]
      have hown : M 4 r = nI a := by
        obtain ⟨r', t1, t2, t3⟩ := (q3.2.2.2.2.1 0 s hs).2.2.1
        have : r = r' := (nI_eq (by omega) (by omega)).mp (mz.symm.trans t2)
        rw [this]
        exact t3
      obtain ⟨z1, z2⟩ := kz_load (M := M) hZ hN ha hB2 (s := s) (r := r) (f := f) (p := i / 4) (w := w) hs3 (fun hm => ((ka_er_mem hL.2.1 hs).mp hm).2 rfl) (by omega) g1 (by rw [g4]; exact pk_us) hf (by omega) hval w1 w2
        (fun j hj => by
          rw [r36, if_pos (by omega), kr_so_ne _ _ (by decide) (by decide)]
          exact hno (j + 1) (by omega))
        (by
          rw [g4]
          funext y
          by_cases hy : y = r
          · rw [hy, pk_us, hown]
          · rw [pk_un hy, pk_un hy])
        (fun y hy => by rw [gn 5 (by omega) (by omega)]) mz (fun k k1 k2 k3 => (gn k k1 k3).symm)
      refine kb_E_to (cq_tail4 (kq_in ha) (by unfold kq_S; omega) M _ _ g1 mz hq w1 (by rw [show 19 + 7 * a + 2 = 21 + 7 * a by omega, ← gn _ (by omega) (by omega)]; exact w2)) ?_
      rw [← e2] at z1 z2
      obtain ⟨y1, ⟨n, n1, n2, n3⟩, y3⟩ := z1
      exact ⟨s, _, hs3, rfl, ⟨y1, ⟨n, n1, by omega, n3⟩, y3⟩, z2, ko_last z2, ko_add36 o1 ha o2 _ (Or.inl rfl)⟩
    · -- a frame is bound
      obtain ⟨s, hs3, hsn, m1⟩ := m1 (by omega)
      obtain ⟨c0, c1, c3⟩ := hL.2.2.2.1 s hs3 hsn
      have hK : C (19 + 7 * a) 3 = nI a := by
        obtain ⟨-, -, -, k4, k5⟩ := h.2.2.1
        have ha01 : a = 0 ∨ a = 1 := by omega
        rcases ha01 with rfl | rfl
        · exact k4
        · exact k5
      have W := ck_bindApp h hB ha (b := 0) (by decide) (by unfold kr_c; rw [if_pos ha, if_pos rfl]; omega)
      rw [← hK] at W
      refine cq_open0 (kq_in ha) C hf hi24 hltn m1 ?_
      refine cq_open1 ha hs3 C _ _ c0 W (fun v M hq1 => ?_)
      obtain ⟨r, D, r1, r2, d1, d2, e⟩ := hq1
      rw [hK] at e
      cases e
      have dz : D (23 + 7 * a + s) = C (23 + 7 * a + s) := d2 _ (by omega) (by omega) (by omega) (by omega) (by omega) (by omega) (by omega) (by omega) (by omega)
      have bnz : (kx_bn D 0 r (nI a)) (23 + 7 * a + s) = C (23 + 7 * a + s) := by unfold kx_bn; rw [kb_ro_ne _ _ (by omega), kb_up_ne _ _ _ (by omega), dz]
      refine ⟨r, rfl, by rw [bnz, c1]; exact fun q => nI_m1 (a := 6 * f + i / 4) (by omega) q.symm, by rw [bnz]; exact c3, ?_⟩
      obtain ⟨L2, hL2⟩ := (d1.1.2.2.2.2.2 a ha).2.2.2.1
      have e1 : kr_o1 R a = kr_cm R 0 := by unfold kr_o1; rw [if_neg h3]
      have e2 : kr_o2 R a = kb_up (kr_cm R 0) 33 2 ((kr_cm R 0) 33 2 + 1) := by unfold kr_o2; rw [e1]
      have s35 : (kr_cm R 0) 35 = R 35 := kr_cm_ne R 0 (by decide) (by decide) (by decide) (by decide)
      have s36 : (kr_cm R 0) 36 = R 36 := kr_cm_ne R 0 (by decide) (by decide) (by decide) (by decide)
      have s38 : kr_fr (kr_cm R 0) a = kr_fr R a := by unfold kr_fr; rw [kr_cm_ne R 0 (by decide) (by decide) (by decide) (by decide)]
      have hval : 4 * (i / 4) < kr_sz (kr_cm R 0) (6 * a + f) := by
        unfold kr_sz
        rw [s35]
        have : (R 35 (6 * a + f)).toNatClampNeg = kr_sz R (6 * a + f) := rfl
        omega
      obtain ⟨w, w1, w2, w3⟩ := (d1.1.2.2.2.2.2 a ha).2.2.1.1 f (i / 4) hf (by omega) hval
      have hsn2 : s ∉ L2 := by
        intro hm
        obtain ⟨j, hj⟩ := List.getElem?_of_mem hm
        obtain ⟨-, -, ⟨r', t1, t2, -⟩, -⟩ := hL2.2.2.2.2.1 j s hj
        rw [dz, c0] at t2
        exact nI_m1 (a := r') (by omega) t2.symm
      have mk : ∀ k, k ≠ 4 → k ≠ 5 → k ≠ 23 + 7 * a + s → (kb_up (kx_bn D 0 r (nI a)) (23 + 7 * a + s) 0 (nI r)) k = D k := fun k k1 k2 k3 => by unfold kx_bn; rw [kb_up_ne _ _ _ k3, kb_ro_ne _ _ (by omega), kb_up_ne _ _ _ (by omega)]
      have mz : (kb_up (kx_bn D 0 r (nI a)) (23 + 7 * a + s) 0 (nI r)) (23 + 7 * a + s) 0 = nI r := by rw [kb_up_at]; exact pk_us
      obtain ⟨z1, z2⟩ := kz_load (M := kb_up (kx_bn D 0 r (nI a)) (23 + 7 * a + s) 0 (nI r)) d1 hN ha hL2 (s := s) (r := r) (f := f) (p := i / 4) (w := w) hs3 hsn2 (by omega) (by omega) r2 hf (by omega) hval w1 w2 (fun j hj => by rw [s36]; exact hno j (by omega))
        (by unfold kx_bn; rw [kb_up_ne _ _ _ (by omega), kb_ro_ne _ _ (by omega), kb_up_at])
        (fun y hy => by
          have e5 : (kb_up (kx_bn D 0 r (nI a)) (23 + 7 * a + s) 0 (nI r)) 5 = fun j => if j / 4 = r then 0 else D 5 j := by rw [kb_up_ne _ _ _ (by omega)]; exact kb_ro_at _ _ _
          rw [e5]
          exact if_neg hy) mz mk
      refine kb_E_to (cq_tail4 (kq_in ha) (by unfold kq_S; omega) _ _ _ (by omega) mz hq w1 (by rw [show 19 + 7 * a + 2 = 21 + 7 * a by omega, mk _ (by omega) (by omega) (by omega)]; exact w2)) ?_
      rw [← e2] at z1 z2
      exact ⟨s, _, hs3, rfl, z1, z2, ko_last z2, ko_add36 o1 ha o2 _ (Or.inl rfl)⟩
