/-! a slot is used: it becomes the youngest -/
theorem kr_ad_rows (R : kb_M) (a : Nat) (p d : Int32) : (∀ k, k ≠ 36 → k ≠ 37 → k ≠ 38 → (kr_ad R a p d) k = R k) ∧ (kr_ad R a p d) 38 = upd (R 38) a (R 38 a + 1) ∧ (kr_ad R a p d) 36 = upd (R 36) (3 * a + kr_fr R a) p ∧ (kr_ad R a p d) 37 = upd (R 37) (3 * a + kr_fr R a) d := by
  refine ⟨fun k g1 g2 g3 => ?_, ?_, ?_, ?_⟩
  · unfold kr_ad; rw [kb_up_ne _ _ _ g3, kb_up_ne _ _ _ g2, kb_up_ne _ _ _ g1]
  · unfold kr_ad; rw [kb_up_at, kb_up_ne _ _ _ (by decide), kb_up_ne _ _ _ (by decide)]
  · unfold kr_ad; rw [kb_up_ne _ _ _ (by decide), kb_up_ne _ _ _ (by decide), kb_up_at]
  · unfold kr_ad; rw [kb_up_ne _ _ _ (by decide), kb_up_at, kb_up_ne _ _ _ (by decide)]
theorem ka_nd {L : List Nat} {s : Nat} (h : L.Nodup) (hs : s ∉ L) : (L ++ [s]).Nodup := by
  refine List.pairwise_append.mpr ⟨h, List.pairwise_singleton _ _, fun x hx y hy => ?_⟩
  rw [List.mem_singleton.mp hy]
  exact fun q => hs (q ▸ hx)
/-- a place of the lengthened order -/
theorem ka_app {L : List Nat} {s i y : Nat} (h : (L ++ [s])[i]? = some y) : (i < L.length ∧ L[i]? = some y) ∨ (i = L.length ∧ y = s) := by
  by_cases hi : i < L.length
  · rw [List.getElem?_append_left hi] at h
    exact Or.inl ⟨hi, h⟩
  · rw [List.getElem?_append_right (by omega)] at h
    have h2 := List.mem_of_getElem? h
    have h3 := (List.getElem?_eq_some_iff.mp h).1
    simp only [List.length_singleton] at h3
    exact Or.inr ⟨by omega, List.mem_singleton.mp h2⟩
theorem kj_N {N : Nat} {C R : kb_M} (h : ki_J N C R) : ki_J (N + 1) C R := by
  obtain ⟨hR, hst, hH, hN, hG, hA⟩ := h
  refine ⟨hR, hst, hH, hN, hG, fun a ha => ?_⟩
  obtain ⟨a1, ⟨u, u1, u2⟩, a3, a4, a5⟩ := hA a ha
  exact ⟨a1, ⟨u, u1, by omega⟩, a3, a4, a5⟩
set_option maxHeartbeats 1000000 in
theorem ka_touch {N : Nat} {C R : kb_M} (h : ki_J N C R) (hN6 : N ≤ 600) {a : Nat} (ha : a < 2) {L : List Nat} (hL : ki_B C R a L) {j s v : Nat} (hj : L[j]? = some s) (hv : C (19 + 7 * a) 7 = nI v) (hvN : v ≤ N) : ki_J (N + 1) (kb_up (kb_up C (19 + 7 * a) 7 (nI (v + 1))) (23 + 7 * a + s) 2 (nI (v + 1))) (kr_ad (kr_rm R a j) a (R 36 (3 * a + j)) (R 37 (3 * a + j))) ∧ ki_B (kb_up (kb_up C (19 + 7 * a) 7 (nI (v + 1))) (23 + 7 * a + s) 2 (nI (v + 1))) (kr_ad (kr_rm R a j) a (R 36 (3 * a + j)) (R 37 (3 * a + j))) a (L.eraseIdx j ++ [s]) := by
  have hA := h.2.2.2.2.2 a ha
  have hR := h.1
  obtain ⟨hs3, hj3, -⟩ := ka_slot hA hR ha hL hj
  obtain ⟨h1, h2, ⟨p1, p2, p3⟩, -, hwd⟩ := hA
  obtain ⟨l1, l2, l3, l4, l5, l6⟩ := hL
  have hjl : j < kr_fr R a := by rw [← l1]; exact (List.getElem?_eq_some_iff.mp hj).1
  have hfl := (hR.2.2.1 a ha).2
  obtain ⟨hT, hTf⟩ := kr_rm_ok hR ha hjl
  obtain ⟨hS, hSf⟩ := kr_ad_ok hT ha (by omega) (p := R 36 (3 * a + j)) (hR.2.2.2.2 (3 * a + j) (by omega))
  obtain ⟨tn, t38, t36, t37⟩ := kr_rm_rows R a j
  obtain ⟨an, a38, a36, a37⟩ := kr_ad_rows (kr_rm R a j) a (R 36 (3 * a + j)) (R 37 (3 * a + j))
  rw [hTf] at a36 a37 hSf
  generalize hSe : kr_ad (kr_rm R a j) a (R 36 (3 * a + j)) (R 37 (3 * a + j)) = S at *
  generalize hD : kb_up (kb_up C (19 + 7 * a) 7 (nI (v + 1))) (23 + 7 * a + s) 2 (nI (v + 1)) = D
  have sn : ∀ k, k ≠ 36 → k ≠ 37 → k ≠ 38 → S k = R k := fun k q1 q2 q3 => by rw [an k q1 q2 q3, tn k q1 q2 q3]
  have s38 : ∀ o, S 38 o = R 38 o := by
    intro o
    by_cases hoa : o = a
    · rw [hoa, a38, pk_us, t38, pk_us, ← nI_succ, (hR.2.2.1 a ha).1]
      congr 1
      omega
    · rw [a38, pk_un hoa, t38, pk_un hoa]
  have s36 : ∀ q, S 36 q = if q = 3 * a + (kr_fr R a - 1) then R 36 (3 * a + j) else if 3 * a + j ≤ q ∧ q < 3 * a + (kr_fr R a - 1) then R 36 (q + 1) else R 36 q := fun q => by rw [a36]; unfold upd; rw [t36]
  have s37 : ∀ q, S 37 q = if q = 3 * a + (kr_fr R a - 1) then R 37 (3 * a + j) else if 3 * a + j ≤ q ∧ q < 3 * a + (kr_fr R a - 1) then R 37 (q + 1) else R 37 q := fun q => by rw [a37]; unfold upd; rw [t37]
  have dc : D (19 + 7 * a) = upd (C (19 + 7 * a)) 7 (nI (v + 1)) := by rw [← hD, kb_up_ne _ _ _ (by omega), kb_up_at]
  have dz : D (23 + 7 * a + s) = upd (C (23 + 7 * a + s)) 2 (nI (v + 1)) := by rw [← hD, kb_up_at, kb_up_ne _ _ _ (by omega)]
  have dn : ∀ k, k ≠ 19 + 7 * a → k ≠ 23 + 7 * a + s → D k = C k := fun k q1 q2 => by rw [← hD, kb_up_ne _ _ _ q2, kb_up_ne _ _ _ q1]
  have dsl : ∀ y q, y < 3 → q ≠ 2 → D (23 + 7 * a + y) q = C (23 + 7 * a + y) q := by
    intro y q hy hq
    by_cases hys : y = s
    · rw [hys, dz, pk_un hq]
    · rw [dn _ (by omega) (by omega)]
  have hlen : (L.eraseIdx j).length = kr_fr R a - 1 := by rw [List.length_eraseIdx_of_lt (by rw [l1]; exact hjl), l1]
  have hsn : s ∉ L.eraseIdx j := fun q => ((ka_er_mem l2 hj).mp q).2 rfl
  -- where a place of the new order comes from
  have pl : ∀ i y, (L.eraseIdx j ++ [s])[i]? = some y → ∃ i0, L[i0]? = some y ∧ S 36 (3 * a + i) = R 36 (3 * a + i0) ∧ S 37 (3 * a + i) = R 37 (3 * a + i0) ∧ y < 3 ∧ ((i < kr_fr R a - 1 ∧ i0 = ka_pl j i ∧ y ≠ s) ∨ (i = kr_fr R a - 1 ∧ i0 = j ∧ y = s)) := by
    intro i y hi
    rcases ka_app hi with ⟨q1, q2⟩ | ⟨q1, q2⟩
    · rw [hlen] at q1
      have q3 := ka_er q2
      have hne := ((ka_er_mem l2 hj).mp (List.mem_of_getElem? q2)).2
      refine ⟨ka_pl j i, q3, ?_, ?_, l3 y (List.mem_of_getElem? q3), Or.inl ⟨q1, rfl, hne⟩⟩
      · rw [s36, if_neg (by omega)]
        unfold ka_pl
        by_cases hij : i < j
        · rw [if_pos hij, if_neg (by omega)]
        · rw [if_neg hij, if_pos (by omega)]
          congr 1
      · rw [s37, if_neg (by omega)]
        unfold ka_pl
        by_cases hij : i < j
        · rw [if_pos hij, if_neg (by omega)]
        · rw [if_neg hij, if_pos (by omega)]
          congr 1
    · rw [hlen] at q1
      refine ⟨j, by rw [q2]; exact hj, by rw [s36, if_pos (by omega)], by rw [s37, if_pos (by omega)], by rw [q2]; exact hs3, Or.inr ⟨q1, rfl, q2⟩⟩
  have hB : ki_B D S a (L.eraseIdx j ++ [s]) := by
    refine ⟨?_, ka_nd (l2.eraseIdx j) hsn, fun y hy => ?_, fun y hy hn => ?_, fun i y hi => ?_, fun i k y z hik hi hk => ?_⟩
    · rw [List.length_append, hlen, hSf]; rfl
    · rcases List.mem_append.mp hy with q | q
      · exact l3 y ((ka_er_mem l2 hj).mp q).1
      · rw [List.mem_singleton.mp q]; exact hs3
    · have hys : y ≠ s := fun q => hn (List.mem_append.mpr (Or.inr (List.mem_singleton.mpr q)))
      rw [dn _ (by omega) (by omega)]
      exact l4 y hy (fun q => hn (List.mem_append.mpr (Or.inl ((ka_er_mem l2 hj).mpr ⟨q, hys⟩))))
    · obtain ⟨i0, q1, q2, q3, q4, q5⟩ := pl i y hi
      obtain ⟨m1, m2, ⟨r1, m3, m4, m5⟩, ⟨f1, p1', m6, m7, m8, m9⟩, ⟨u, v', m10, m11, m12⟩⟩ := l5 _ y q1
      have evv : v' = v := (nI_eq (by omega) (by omega)).mp (m11.symm.trans hv)
      rw [q2, q3, dsl y 0 q4 (by decide), dsl y 1 q4 (by decide), dsl y 3 q4 (by decide), dn 4 (by omega) (by omega), dc, pk_us]
      refine ⟨m1, m2, ⟨r1, m3, m4, m5⟩, ⟨f1, p1', m6, m7, by unfold kr_sz; rw [sn 35 (by decide) (by decide) (by decide)]; exact m8, m9⟩, ?_⟩
      rcases q5 with ⟨-, -, hys⟩ | ⟨-, -, hys⟩
      · rw [dn _ (by omega) (by omega)]
        exact ⟨u, v + 1, m10, rfl, by omega, by omega⟩
      · rw [hys, dz, pk_us]
        exact ⟨v + 1, v + 1, rfl, rfl, Nat.le_refl _, by omega⟩
    · obtain ⟨i0, q1, q2, q3, q4, q5⟩ := pl i y hi
      obtain ⟨k0, t1, t2, t3, t4, t5⟩ := pl k z hk
      rw [q2, t2, dsl y 0 q4 (by decide), dsl z 0 t4 (by decide)]
      rcases q5 with ⟨e1, e2, hys⟩ | ⟨e1, e2, hys⟩
      · rcases t5 with ⟨f1, f2, hzs⟩ | ⟨f1, f2, hzs⟩
        · rw [dn (23 + 7 * a + y) (by omega) (by omega), dn (23 + 7 * a + z) (by omega) (by omega)]
          exact l6 i0 k0 y z (by rw [e2, f2]; unfold ka_pl; split <;> split <;> omega) q1 t1
        · obtain ⟨m1, m2, m3, m4, ⟨u, v', m10, m11, m12, m13⟩⟩ := l5 _ y q1
          have evv : v' = v := (nI_eq (by omega) (by omega)).mp (m11.symm.trans hv)
          have hne : i0 ≠ j := by rw [e2]; unfold ka_pl; split <;> omega
          rw [hzs, dz, pk_us, dn (23 + 7 * a + y) (by omega) (by omega), m10, f2]
          refine ⟨nI_lt (by omega) (by omega), ?_⟩
          by_cases hlt : i0 < j
          · exact (l6 i0 j y s hlt q1 hj).2
          · have q := (l6 j i0 s y (by omega) hj q1).2
            exact ⟨fun z => q.1 z.symm, fun z => q.2 z.symm⟩
      · rcases t5 with ⟨f1, f2, hzs⟩ | ⟨f1, f2, hzs⟩ <;> omega
  refine ⟨?_, hB⟩
  have s35 := sn 35 (by decide) (by decide) (by decide)
  have es38 : S 38 = R 38 := funext s38
  refine kj_app (kj_N h) ha hS (sn 39 (by decide) (by decide) (by decide)) (sn 41 (by decide) (by decide) (by decide)) (sn 42 (by decide) (by decide) (by decide)) (sn 43 (by decide) (by decide) (by decide)) (sn 44 (by decide) (by decide) (by decide)) (fun b hb' q hq => by rw [dn _ (by omega) (by omega)]; exact h.2.2.1 b hb' q hq) (kn_same h.2.2.2.1 (fun b hb' => dn _ (by omega) (by omega)) s35 es38 (sn 39 (by decide) (by decide) (by decide)) (sn 41 (by decide) (by decide) (by decide)) (sn 42 (by decide) (by decide) (by decide))) (fun k q1 q2 => dn k (by omega) (by omega)) (fun o ho hoa => ⟨fun k q1 q2 => dn k (by omega) (by omega), fun i _ => by rw [sn 34 (by decide) (by decide) (by decide)], fun f _ => by rw [s35], fun i hi => ⟨by rw [s36, if_neg (by omega), if_neg (by omega)], by rw [s37, if_neg (by omega), if_neg (by omega)]⟩, s38 o⟩) (fun e he hea => kk_rows e (fun b hb' => ⟨dn _ (by omega) (by omega), dn _ (by omega) (by omega)⟩)) ?_
  refine ⟨⟨by rw [dn (20 + 7 * a) (by omega) (by omega), s35]; exact h1.1, by rw [kr_b_eq s35]; exact h1.2⟩, ⟨v + 1, by rw [dc, pk_us], by omega⟩, ⟨?_, ?_, ?_⟩, ⟨_, hB⟩, ?_⟩
  · rw [dn (21 + 7 * a) (by omega) (by omega), dn 7 (by omega) (by omega)]
    unfold kr_sz
    rw [s35]
    exact p1
  · rw [dn (21 + 7 * a) (by omega) (by omega)]
    unfold kr_sz
    rw [s35]
    exact p2
  · rw [dn (21 + 7 * a) (by omega) (by omega)]
    exact p3
  · intro f0 i0 r0 hf0 hi0 hr0 hr24
    unfold kr_sz at hi0
    rw [s35] at hi0
    rw [dn (21 + 7 * a) (by omega) (by omega)] at hr0
    rw [sn 34 (by decide) (by decide) (by decide), dn 5 (by omega) (by omega), dn 8 (by omega) (by omega)]
    obtain ⟨w1, w2⟩ := hwd f0 i0 r0 hf0 hi0 hr0 hr24
    refine ⟨fun y r1 hy hyp hyf hr1 => ?_, fun hno => w2 (fun y hy => by rw [← dsl y 1 hy (by decide)]; exact hno y hy)⟩
    rw [dsl y 1 hy (by decide)] at hyp
    rw [dsl y 0 hy (by decide)] at hyf
    rw [dsl y 3 hy (by decide)]
    exact w1 y r1 hy hyp hyf hr1
