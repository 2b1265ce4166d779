/-! a word of a cached part: read, changed -/
set_option maxHeartbeats 1000000 in
/-- a word of the part in the slot at place j is changed -/
theorem ka_write {N : Nat} {C R : kb_M} (h : ki_J N C R) {a : Nat} (ha : a < 2) {L : List Nat} (hL : ki_B C R a L) {j s r f i : Nat} (w : Int32) (hj : L[j]? = some s) (hr : r < 12) (hfr : C (23 + 7 * a + s) 0 = nI r) (hf : f < 6) (hi : i < kr_sz R (6 * a + f)) (hpt : C (23 + 7 * a + s) 1 = nI (6 * f + i / 4)) : ki_J N (kb_up (kb_up C (23 + 7 * a + s) 3 1) 5 (4 * r + i % 4) w) (kb_up (kb_up R 34 (144 * a + 24 * f + i) w) 37 (3 * a + j) 1) ∧ ki_B (kb_up (kb_up C (23 + 7 * a + s) 3 1) 5 (4 * r + i % 4) w) (kb_up (kb_up R 34 (144 * a + 24 * f + i) w) 37 (3 * a + j) 1) a L := by
  have hA := h.2.2.2.2.2 a ha
  have hR := h.1
  obtain ⟨hs3, hj3, r', -, -, -, g1, g2, g3, -⟩ := ka_slot hA hR ha hL hj
  have er : r = r' := (nI_eq (by omega) (by omega)).mp (hfr.symm.trans g2)
  subst er
  have h24 := (hR.2.1 (6 * a + f) (by omega)).2
  obtain ⟨h1, h2, ⟨p1, p2, p3⟩, -, hwd⟩ := hA
  obtain ⟨l1, l2, l3, l4, l5, l6⟩ := hL
  generalize hD : kb_up (kb_up C (23 + 7 * a + s) 3 1) 5 (4 * r + i % 4) w = D
  generalize hS : kb_up (kb_up R 34 (144 * a + 24 * f + i) w) 37 (3 * a + j) 1 = S
  have d5 : D 5 = upd (C 5) (4 * r + i % 4) w := by rw [← hD, kb_up_at, kb_up_ne _ _ _ (by omega)]
  have dz : D (23 + 7 * a + s) = upd (C (23 + 7 * a + s)) 3 1 := by rw [← hD, kb_up_ne _ _ _ (by omega), kb_up_at]
  have dn : ∀ k, k ≠ 5 → k ≠ 23 + 7 * a + s → D k = C k := fun k q1 q2 => by rw [← hD, kb_up_ne _ _ _ q1, kb_up_ne _ _ _ q2]
  have dsl : ∀ y q, y < 3 → q ≠ 3 → D (23 + 7 * a + y) q = C (23 + 7 * a + y) q := by
    intro y q hy hq
    by_cases hys : y = s
    · rw [hys, dz, pk_un hq]
    · rw [dn _ (by omega) (by omega)]
  have sn : ∀ k, k ≠ 34 → k ≠ 37 → S k = R k := fun k q1 q2 => by rw [← hS, kb_up_ne _ _ _ q2, kb_up_ne _ _ _ q1]
  have s37 : S 37 = upd (R 37) (3 * a + j) 1 := by rw [← hS, kb_up_at, kb_up_ne _ _ _ (by decide)]
  have s34 : S 34 = upd (R 34) (144 * a + 24 * f + i) w := by rw [← hS, kb_up_ne _ _ _ (by decide), kb_up_at]
  have hSok : kr_ok S := by
    obtain ⟨k1, k2, k3, k4, k5⟩ := hR
    unfold kr_ok kr_bd kr_sz kr_fr at *
    refine ⟨?_, ?_, ?_, ?_, fun q hq => ?_⟩
    · rw [sn 39 (by decide) (by decide)]; exact k1
    · rw [sn 35 (by decide) (by decide)]; exact k2
    · rw [sn 38 (by decide) (by decide)]; exact k3
    · rw [sn 41 (by decide) (by decide)]; exact k4
    · rw [s37]
      by_cases hqj : q = 3 * a + j
      · rw [hqj, pk_us]; exact Or.inr rfl
      · rw [pk_un hqj]; exact k5 q hq
  have hB : ki_B D S a L := by
    refine ⟨by rw [l1]; unfold kr_fr; rw [sn 38 (by decide) (by decide)], l2, l3, fun y hy hn => ?_, fun i y hi => ?_, fun i k y z hik hi hk => ?_⟩
    · have hys : y ≠ s := fun q => hn (by rw [q]; exact List.mem_of_getElem? hj)
      rw [dn _ (by omega) (by omega)]
      exact l4 y hy hn
    · have hy := l3 y (List.mem_of_getElem? hi)
      obtain ⟨q1, q2, ⟨r1, r2, r3, r4⟩, ⟨f1, p1', q6, q7, q8, q9⟩, ⟨u, v, q10, q11, q12⟩⟩ := l5 i y hi
      rw [dsl y 0 hy (by decide), dsl y 1 hy (by decide), dsl y 2 hy (by decide), dn 4 (by omega) (by omega), sn 36 (by decide) (by decide), dn (19 + 7 * a) (by omega) (by omega)]
      refine ⟨q1, ?_, ⟨r1, r2, r3, r4⟩, ⟨f1, p1', q6, q7, by unfold kr_sz; rw [sn 35 (by decide) (by decide)]; exact q8, q9⟩, ⟨u, v, q10, q11, q12⟩⟩
      rw [s37]
      by_cases hys : y = s
      · have hij : i = j := ka_inj l2 hi (by rw [hys]; exact hj)
        rw [hys, dz, hij, pk_us, pk_us]
      · have hij : i ≠ j := fun q => hys (by
          rw [q, hj] at hi
          exact (Option.some.inj hi).symm)
        rw [dn _ (by omega) (by omega), pk_un (by omega)]
        exact q2
    · have hy := l3 y (List.mem_of_getElem? hi)
      have hz := l3 z (List.mem_of_getElem? hk)
      rw [dsl y 2 hy (by decide), dsl z 2 hz (by decide), dsl y 0 hy (by decide), dsl z 0 hz (by decide), sn 36 (by decide) (by decide)]
      exact l6 i k y z hik hi hk
  refine ⟨?_, hB⟩
  refine kj_app h ha hSok (sn 39 (by decide) (by decide)) (sn 41 (by decide) (by decide)) (sn 42 (by decide) (by decide)) (sn 43 (by decide) (by decide)) (sn 44 (by decide) (by decide)) (fun b hb' q hq => ?_) (kn_same h.2.2.2.1 (fun b hb' => dn _ (by omega) (by omega)) (sn 35 (by decide) (by decide)) (sn 38 (by decide) (by decide)) (sn 39 (by decide) (by decide)) (sn 41 (by decide) (by decide)) (sn 42 (by decide) (by decide))) (fun k q1 q2 => dn k (by omega) (by omega)) (fun o ho hoa => ⟨fun k q1 q2 => dn k (by omega) (by omega), fun y _ => by rw [s34, pk_un (by omega)], fun f _ => by rw [sn 35 (by decide) (by decide)], fun i hi => ⟨by rw [sn 36 (by decide) (by decide)], by rw [s37, pk_un (by omega)]⟩, by rw [sn 38 (by decide) (by decide)]⟩) (fun e he hea => ?_) ?_
  · rw [dn _ (by omega) (by omega)]
    exact h.2.2.1 b hb' q hq
  · intro b hb' q hq hce
    rw [dn (4 + 3 * b) (by omega) (by omega)]
    refine ⟨hce, fun k hk => ?_⟩
    by_cases hb0 : b = 0
    · subst hb0
      have hqw : q ≠ r := fun z => by
        have hce : C 4 q = nI e := hce
        rw [z, g3, nI_eq (by omega) (by omega)] at hce
        exact hea hce.symm
      show D 5 (4 * q + k) = C 5 (4 * q + k)
      rw [d5, pk_un (by omega)]
    · rw [dn (5 + 3 * b) (by omega) (by omega)]
  · refine ⟨⟨by rw [dn (20 + 7 * a) (by omega) (by omega), sn 35 (by decide) (by decide)]; exact h1.1, by rw [kr_b_eq (sn 35 (by decide) (by decide))]; exact h1.2⟩, by rw [dn (19 + 7 * a) (by omega) (by omega)]; exact h2, ⟨?_, ?_, ?_⟩, ⟨L, hB⟩, ?_⟩
    · rw [dn (21 + 7 * a) (by omega) (by omega), dn 7 (by omega) (by omega)]
      unfold kr_sz
      rw [sn 35 (by decide) (by decide)]
      exact p1
    · rw [dn (21 + 7 * a) (by omega) (by omega)]
      unfold kr_sz
      rw [sn 35 (by decide) (by decide)]
      exact p2
    · rw [dn (21 + 7 * a) (by omega) (by omega)]
      exact p3
    · intro f0 i0 r0 hf0 hi0 hr0 hr24
      unfold kr_sz at hi0
      rw [sn 35 (by decide) (by decide)] at hi0
      have h240 := (hR.2.1 (6 * a + f0) (by omega)).2
      have hi24 : i0 < kr_sz R (6 * a + f0) := hi0
      rw [dn (21 + 7 * a) (by omega) (by omega)] at hr0
      rw [dn 8 (by omega) (by omega)]
      obtain ⟨w1, w2⟩ := hwd f0 i0 r0 hf0 hi0 hr0 hr24
      refine ⟨fun y r1 hy hyp hyf hr1 => ?_, fun hno => ?_⟩
      · rw [dsl y 1 hy (by decide)] at hyp
        rw [dsl y 0 hy (by decide)] at hyf
        obtain ⟨v1, v2⟩ := w1 y r1 hy hyp hyf hr1
        by_cases hys : y = s
        · subst hys
          have e1 : r1 = r := (nI_eq (by omega) (by omega)).mp (hyf.symm.trans hfr)
          have e2 : 6 * f0 + i0 / 4 = 6 * f + i / 4 := (nI_eq (by omega) (by omega)).mp (hyp.symm.trans hpt)
          have e3 : f0 = f := by omega
          subst e3
          subst e1
          refine ⟨?_, fun hc => ?_⟩
          · rw [d5, s34]
            by_cases hii : i0 = i
            · rw [hii, pk_us, pk_us]
            · rw [pk_un (by omega), pk_un (by omega)]
              exact v1
          · rw [dz, pk_us] at hc
            exact absurd hc (by decide)
        · have hym : y ∈ L := by
            by_cases hm : y ∈ L
            · exact hm
            · have := (l4 y hy hm).1
              rw [hyf] at this
              exact absurd this (nI_m1 (by omega))
          obtain ⟨k, hk⟩ := List.getElem?_of_mem hym
          have hkj : k ≠ j := fun q => hys (by
            rw [q, hj] at hk
            exact (Option.some.inj hk).symm)
          have hdf : C (23 + 7 * a + y) 0 ≠ C (23 + 7 * a + s) 0 ∧ C (23 + 7 * a + y) 1 ≠ C (23 + 7 * a + s) 1 := by
            rw [(l5 k y hk).1, (l5 j s hj).1]
            by_cases hlt : k < j
            · obtain ⟨-, x1, x2⟩ := l6 k j y s hlt hk hj
              exact ⟨x2, x1⟩
            · obtain ⟨-, x1, x2⟩ := l6 j k s y (by omega) hj hk
              exact ⟨fun q => x2 q.symm, fun q => x1 q.symm⟩
          rw [hyf, hfr, hyp, hpt] at hdf
          have e1 : r1 ≠ r := fun q => hdf.1 (by rw [q])
          have e2 : 6 * f0 + i0 / 4 ≠ 6 * f + i / 4 := fun q => hdf.2 (by rw [q])
          rw [d5, s34, pk_un (by omega), pk_un (by omega), dn (23 + 7 * a + y) (by omega) (by omega)]
          exact ⟨v1, v2⟩
      · have e2 : 6 * f0 + i0 / 4 ≠ 6 * f + i / 4 := fun q => hno s hs3 (by rw [dsl s 1 hs3 (by decide), hpt, q])
        rw [s34, pk_un (by omega)]
        exact w2 (fun y hy => by rw [← dsl y 1 hy (by decide)]; exact hno y hy)
