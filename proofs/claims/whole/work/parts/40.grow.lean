/-! a file grows by a word -/
theorem kr_b_set {R S : kb_M} {a f m : Nat} (h : S 35 = upd (R 35) (6 * a + f) (nI m)) (hm : m < 1000) : ∀ n, (n ≤ f → kr_b S a n = kr_b R a n) ∧ (f < n → kr_b S a n + (kr_sz R (6 * a + f) + 3) / 4 = kr_b R a n + (m + 3) / 4) := by
  intro n
  induction n with
  | zero => exact ⟨fun _ => rfl, fun q => absurd q (by omega)⟩
  | succ n ih =>
    obtain ⟨i1, i2⟩ := ih
    refine ⟨fun q => ?_, fun q => ?_⟩
    · have := i1 (by omega)
      unfold kr_b kr_sz
      rw [this, h, pk_un (by omega)]
    · by_cases hn : n = f
      · have := i1 (by omega)
        unfold kr_b kr_sz
        rw [this, h, hn, pk_us, nI_clamp (by omega)]
        have : (R 35 (6 * a + f)).toNatClampNeg = kr_sz R (6 * a + f) := rfl
        omega
      · have := i2 (by omega)
        unfold kr_b
        have e : kr_sz S (6 * a + n) = kr_sz R (6 * a + n) := by unfold kr_sz; rw [h, pk_un (by omega)]
        rw [e]
        omega
set_option maxHeartbeats 1000000 in
theorem ka_grow {N : Nat} {C D R S : kb_M} (h : ki_J N C R) {a : Nat} (ha : a < 2) {L : List Nat} (hL : ki_B C R a L) {f n : Nat} {x : Int32} (hf : f < 6) (hn : kr_sz R (6 * a + f) = n) (hn24 : n < 24)
    (d20 : D (20 + 7 * a) = upd (C (20 + 7 * a)) f (nI (n + 1))) (s35 : S 35 = upd (R 35) (6 * a + f) (nI (n + 1))) (s34 : S 34 = upd (R 34) (144 * a + 24 * f + n) x) (sn : ∀ k, k ≠ 34 → k ≠ 35 → S k = R k)
    (hH : ki_H D) (hNN : ki_N D S) (dn : ∀ k, 9 ≤ k → k ≠ 20 + 7 * a → k ≠ 21 + 7 * a → D k = C k) (hk : ∀ e, e < 4 → ki_keep C D e) (d21 : ∀ q, q ≠ 6 * f + n / 4 ∨ n % 4 ≠ 0 → D (21 + 7 * a) q = C (21 + 7 * a) q) (hb6 : kr_b S a 6 ≤ 6) (hP : ki_P D S a)
    (hW : ∀ r, r < 24 → D (21 + 7 * a) (6 * f + n / 4) = nI r → (∀ s r0, s < 3 → C (23 + 7 * a + s) 1 = nI (6 * f + n / 4) → C (23 + 7 * a + s) 0 = nI r0 → r0 < 12 → C 5 (4 * r0 + n % 4) = x ∧ (C (23 + 7 * a + s) 3 = 0 → D 8 (4 * r + n % 4) = x)) ∧ ((∀ s, s < 3 → C (23 + 7 * a + s) 1 ≠ nI (6 * f + n / 4)) → D 8 (4 * r + n % 4) = x)) : ki_J N D S ∧ ki_B D S a L := by
  have hA := h.2.2.2.2.2 a ha
  have hR := h.1
  obtain ⟨h1, h2, ⟨p1, p2, p3⟩, -, hwd⟩ := hA
  obtain ⟨l1, l2, l3, l4, l5, l6⟩ := hL
  have szf : kr_sz S (6 * a + f) = n + 1 := by unfold kr_sz; rw [s35, pk_us, nI_clamp (by omega)]
  have szo : ∀ j, j ≠ 6 * a + f → kr_sz S j = kr_sz R j := fun j hj => by unfold kr_sz; rw [s35, pk_un hj]
  have szle : ∀ j, kr_sz R j ≤ kr_sz S j := fun j => by
    by_cases hj : j = 6 * a + f
    · rw [hj, szf]; omega
    · rw [szo j hj]; exact Nat.le_refl _
  have hSok : kr_ok S := by
    have e39 := sn 39 (by decide) (by decide)
    have e38 := sn 38 (by decide) (by decide)
    have e41 := sn 41 (by decide) (by decide)
    have e37 := sn 37 (by decide) (by decide)
    obtain ⟨k1, k2, k3, k4, k5⟩ := hR
    refine ⟨?_, fun j hj => ?_, ?_, ?_, ?_⟩
    · unfold kr_bd; rw [e39]; exact k1
    · by_cases hjj : j = 6 * a + f
      · rw [hjj, szf]
        exact ⟨by rw [s35, pk_us], by omega⟩
      · rw [szo j hjj, s35, pk_un hjj]
        exact k2 j hj
    · unfold kr_fr; rw [e38]; exact k3
    · rw [e41]; exact k4
    · rw [e37]; exact k5
  have dz : ∀ s, s < 3 → D (23 + 7 * a + s) = C (23 + 7 * a + s) := fun s hs => dn _ (by omega) (by omega) (by omega)
  have dc := dn (19 + 7 * a) (by omega) (by omega) (by omega)
  have k5 : ∀ r, r < 12 → C 4 r = nI a → D 4 r = nI a ∧ ∀ k, k < 4 → D 5 (4 * r + k) = C 5 (4 * r + k) := fun r hr hc => hk a (by omega) 0 (by decide) r hr hc
  have k8 : ∀ r, r < 24 → C 7 r = nI a → D 7 r = nI a ∧ ∀ k, k < 4 → D 8 (4 * r + k) = C 8 (4 * r + k) := fun r hr hc => hk a (by omega) 1 (by decide) r hr hc
  have hB : ki_B D S a L := by
    refine ⟨by rw [l1]; unfold kr_fr; rw [sn 38 (by decide) (by decide)], l2, l3, fun y hy hn => ?_, fun i y hi => ?_, fun i k y z hik hi hk => ?_⟩
    · rw [dz y hy]
      exact l4 y hy hn
    · have hy := l3 y (List.mem_of_getElem? hi)
      obtain ⟨q1, q2, ⟨r1, r2, r3, r4⟩, ⟨f1, p1', q6, q7, q8, q9⟩, q10⟩ := l5 i y hi
      rw [dz y hy, dc, sn 36 (by decide) (by decide), sn 37 (by decide) (by decide)]
      exact ⟨q1, q2, ⟨r1, r2, r3, (k5 r1 r2 r4).1⟩, ⟨f1, p1', q6, q7, Nat.lt_of_lt_of_le q8 (szle _), q9⟩, q10⟩
    · rw [dz y (l3 y (List.mem_of_getElem? hi)), dz z (l3 z (List.mem_of_getElem? hk)), sn 36 (by decide) (by decide)]
      exact l6 i k y z hik hi hk
  refine ⟨?_, hB⟩
  refine kj_app h ha hSok (sn 39 (by decide) (by decide)) (sn 41 (by decide) (by decide)) (sn 42 (by decide) (by decide)) (sn 43 (by decide) (by decide)) (sn 44 (by decide) (by decide)) hH hNN (fun k q1 q2 => dn k (by omega) (by omega) (by omega)) (fun o ho hoa => ⟨fun k q1 q2 => dn k (by omega) (by omega) (by omega), fun y _ => by rw [s34, pk_un (by omega)], fun f _ => by rw [s35, pk_un (by omega)], fun i hi => ⟨by rw [sn 36 (by decide) (by decide)], by rw [sn 37 (by decide) (by decide)]⟩, by rw [sn 38 (by decide) (by decide)]⟩) (fun e he _ => hk e he) ⟨⟨fun f0 hf0 => ?_, hb6⟩, by rw [dc]; exact h2, hP, ⟨L, hB⟩, ?_⟩
  · rw [d20, s35]
    by_cases hff : f0 = f
    · rw [hff, pk_us, pk_us]
    · rw [pk_un hff, pk_un (by omega)]
      exact h1.1 f0 hf0
  · intro f0 i0 r0 hf0 hi0 hr0 hr24
    by_cases hw : f0 = f ∧ i0 = n
    · obtain ⟨rfl, rfl⟩ := hw
      obtain ⟨w1, w2⟩ := hW r0 hr24 hr0
      rw [s34, pk_us]
      refine ⟨fun y r1 hy hyp hyf hr1 => ?_, fun hno => w2 (fun y hy => by rw [← dz y hy]; exact hno y hy)⟩
      rw [dz y hy] at hyp hyf ⊢
      have hym : y ∈ L := by
        by_cases hm : y ∈ L
        · exact hm
        · have := (l4 y hy hm).1
          rw [hyf] at this
          exact absurd this (nI_m1 (by omega))
      obtain ⟨k, hk'⟩ := List.getElem?_of_mem hym
      obtain ⟨-, -, ⟨r', t1, t2, t3⟩, -⟩ := l5 k y hk'
      have e : r1 = r' := (nI_eq (by omega) (by omega)).mp (hyf.symm.trans t2)
      subst e
      rw [(k5 r1 hr1 t3).2 _ (by omega)]
      exact w1 y r1 hy hyp hyf hr1
    · have hi1 : i0 < kr_sz R (6 * a + f0) := by
        by_cases hff : f0 = f
        · subst hff
          rw [szf] at hi0
          rw [hn]
          have : i0 ≠ n := fun q => hw ⟨rfl, q⟩
          omega
        · rw [szo _ (by omega)] at hi0
          exact hi0
      have h24 := (hR.2.1 (6 * a + f0) (by omega)).2
      have hq : 6 * f0 + i0 / 4 ≠ 6 * f + n / 4 ∨ n % 4 ≠ 0 := by
        by_cases hff : f0 = f
        · subst hff
          omega
        · omega
      rw [d21 _ hq] at hr0
      have hown : C 7 r0 = nI a := by
        obtain ⟨r', t1, t2, t3⟩ := p1 f0 (i0 / 4) hf0 (by omega) (by omega)
        have e : r0 = r' := (nI_eq (by omega) (by omega)).mp (hr0.symm.trans t2)
        rw [e]; exact t3
      obtain ⟨w1, w2⟩ := hwd f0 i0 r0 hf0 hi1 hr0 hr24
      have hidx : 144 * a + 24 * f0 + i0 ≠ 144 * a + 24 * f + n := by
        by_cases hff : f0 = f
        · have : i0 ≠ n := fun q => hw ⟨hff, q⟩
          omega
        · omega
      rw [s34, pk_un hidx, (k8 r0 hr24 hown).2 _ (by omega)]
      refine ⟨fun y r1 hy hyp hyf hr1 => ?_, fun hno => w2 (fun y hy => by rw [← dz y hy]; exact hno y hy)⟩
      rw [dz y hy] at hyp hyf ⊢
      have hym : y ∈ L := by
        by_cases hm : y ∈ L
        · exact hm
        · have := (l4 y hy hm).1
          rw [hyf] at this
          exact absurd this (nI_m1 (by omega))
      obtain ⟨k, hk'⟩ := List.getElem?_of_mem hym
      obtain ⟨-, -, ⟨r', t1, t2, t3⟩, -⟩ := l5 k y hk'
      have e : r1 = r' := (nI_eq (by omega) (by omega)).mp (hyf.symm.trans t2)
      subst e
      rw [(k5 r1 hr1 t3).2 _ (by omega)]
      exact w1 y r1 hy hyp hyf hr1
