/-! erase: the file is emptied -/
set_option maxHeartbeats 1000000 in
theorem ka_shrink {N : Nat} {F S D T : kb_M} (h : ki_J N F S) {a : Nat} (ha : a < 2) {L : List Nat} (hL : ki_B F S a L) {f n m : Nat} (hf : f < 6) (hn : kr_sz S (6 * a + f) = n) (hm : (n + 3) / 4 = m) (hnc : ∀ s, s < 3 → ∀ p, p < 6 → F (23 + 7 * a + s) 1 ≠ nI (6 * f + p))
    (d20 : D (20 + 7 * a) = upd (F (20 + 7 * a)) f 0) (d7 : D 7 = kl_7 F a f m) (d21 : D (21 + 7 * a) = kl_21 F a f m) (dn : ∀ k, k ≠ 7 → k ≠ 20 + 7 * a → k ≠ 21 + 7 * a → D k = F k)
    (t35 : T 35 = upd (S 35) (6 * a + f) 0) (t34 : ∀ i, ¬ (144 * a + 24 * f ≤ i ∧ i < 144 * a + 24 * f + 24) → T 34 i = S 34 i) (tn : ∀ k, k ≠ 34 → k ≠ 35 → T k = S k) : ki_J N D T ∧ ki_B D T a L := by
  have hR := h.1
  have h24 := (hR.2.1 (6 * a + f) (by omega)).2
  obtain ⟨h1, h2, ⟨p1, p2, p3⟩, -, hwd⟩ := h.2.2.2.2.2 a ha
  obtain ⟨l1, l2, l3, l4, l5, l6⟩ := hL
  have hm6 : m ≤ 6 := by omega
  have hblk : ∀ p, p < m → ∃ r, r < 24 ∧ F (21 + 7 * a) (6 * f + p) = nI r ∧ F 7 r = nI a := fun p hp => p1 f p hf (by omega) (by omega)
  have hinj : ∀ p q, p < m → q < m → F (21 + 7 * a) (6 * f + p) = F (21 + 7 * a) (6 * f + q) → p = q := fun p q hp hq he => by
    obtain ⟨r, r1, r2, -⟩ := hblk p hp
    have := p3 (6 * f + p) (6 * f + q) (by omega) (by omega) (by rw [r2]; exact nI_m1 (by omega)) he
    omega
  have szf : kr_sz T (6 * a + f) = 0 := by unfold kr_sz; rw [t35, pk_us]; rfl
  have szo : ∀ j, j ≠ 6 * a + f → kr_sz T j = kr_sz S j := fun j hj => by unfold kr_sz; rw [t35, pk_un hj]
  have t35' : T 35 = upd (S 35) (6 * a + f) (nI 0) := t35
  have hTok : kr_ok T := by
    have e39 := tn 39 (by decide) (by decide)
    have e38 := tn 38 (by decide) (by decide)
    have e41 := tn 41 (by decide) (by decide)
    have e37 := tn 37 (by decide) (by decide)
    obtain ⟨k1, k2, k3, k4, k5⟩ := hR
    refine ⟨?_, fun j hj => ?_, ?_, ?_, ?_⟩
    · unfold kr_bd; rw [e39]; exact k1
    · by_cases hjj : j = 6 * a + f
      · rw [hjj, szf]
        exact ⟨by rw [t35, pk_us]; rfl, by omega⟩
      · rw [szo j hjj, t35, pk_un hjj]
        exact k2 j hj
    · unfold kr_fr; rw [e38]; exact k3
    · rw [e41]; exact k4
    · rw [e37]; exact k5
  -- a block that is none of the file's stays
  have keep7 : ∀ q, (∀ p, p < m → F (21 + 7 * a) (6 * f + p) ≠ nI q) → q < 24 → D 7 q = F 7 q := by
    intro q hq hq24
    rw [d7]
    rcases kl_7_at F a f q m with ⟨p, y1, y2, -⟩ | ⟨-, y2⟩
    · obtain ⟨r, r1, r2, -⟩ := hblk p y1
      rw [r2, nI_clamp (by omega)] at y2
      exact absurd (by rw [r2, y2]) (hq p y1)
    · exact y2
  have D4 := dn 4 (by omega) (by omega) (by omega)
  have D5 := dn 5 (by omega) (by omega) (by omega)
  have D8 := dn 8 (by omega) (by omega) (by omega)
  have dc := dn (19 + 7 * a) (by omega) (by omega) (by omega)
  have dz : ∀ s, s < 3 → D (23 + 7 * a + s) = F (23 + 7 * a + s) := fun s hs => dn _ (by omega) (by omega) (by omega)
  obtain ⟨c1, c2⟩ := kr_c_set ha hf t35' (by omega) tn
  rw [hn, hm] at c1
  have hB : ki_B D T a L := by
    refine ⟨by rw [l1]; unfold kr_fr; rw [tn 38 (by decide) (by decide)], l2, l3, fun y hy hn => ?_, fun i y hi => ?_, fun i k y z hik hi hk => ?_⟩
    · rw [dz y hy]
      exact l4 y hy hn
    · have hy := l3 y (List.mem_of_getElem? hi)
      obtain ⟨q1, q2, q3, ⟨f1, q5, q6, q7, q8, q9⟩, q10⟩ := l5 i y hi
      rw [dz y hy, dc, D4, tn 36 (by decide) (by decide), tn 37 (by decide) (by decide)]
      refine ⟨q1, q2, q3, ⟨f1, q5, q6, q7, ?_, q9⟩, q10⟩
      rw [szo _ (fun e => ?_)]
      · exact q8
      · have : f1 = f := by omega
        subst this
        exact hnc y hy q5 q7 (q1.trans q9)
    · rw [dz y (l3 y (List.mem_of_getElem? hi)), dz z (l3 z (List.mem_of_getElem? hk)), tn 36 (by decide) (by decide)]
      exact l6 i k y z hik hi hk
  refine ⟨?_, hB⟩
  refine kj_app h ha hTok (tn 39 (by decide) (by decide)) (tn 41 (by decide) (by decide)) (tn 42 (by decide) (by decide)) (tn 43 (by decide) (by decide)) (tn 44 (by decide) (by decide)) (fun b hb q hq => ?_) (fun b hb e he => ?_) (fun k q1 q2 => dn k (by omega) (by omega) (by omega)) (fun o ho hoa => ⟨fun k q1 q2 => dn k (by omega) (by omega) (by omega), fun y hy => t34 _ (by omega), fun f0 _ => by rw [t35, pk_un (by omega)], fun i hi => ⟨by rw [tn 36 (by decide) (by decide)], by rw [tn 37 (by decide) (by decide)]⟩, by rw [tn 38 (by decide) (by decide)]⟩) (fun e he hea => ?_) ⟨⟨fun f0 hf0 => ?_, ?_⟩, by rw [dc]; exact h2, ⟨fun f0 p hf0 hp hlt => ?_, fun f0 p hf0 hp hlt => ?_, ?_⟩, ⟨L, hB⟩, ?_⟩
  · by_cases hb1 : b = 1
    · subst hb1
      show D 7 q = -1 ∨ ∃ e, e < 4 ∧ D 7 q = nI e
      rw [d7]
      rcases kl_7_at F a f q m with ⟨p, -, -, y2⟩ | ⟨-, y2⟩
      · exact Or.inl y2
      · rw [y2]
        exact h.2.2.1 1 hb q hq
    · rw [dn _ (by omega) (by omega) (by omega)]
      exact h.2.2.1 b hb q hq
  · by_cases hb1 : b = 1
    · subst hb1
      have h0 : kp_c (F 7) (nI e) 24 = kr_c S e 1 := h.2.2.2.1 1 (by decide) e he
      have u := kl_7_c ha hblk hinj he m (Nat.le_refl _)
      show kp_c (D 7) (nI e) 24 = kr_c T e 1
      rw [d7]
      by_cases hea : e = a
      · subst hea
        rw [if_pos rfl] at u
        omega
      · rw [if_neg hea] at u
        rw [c2 e 1 he (by decide) (fun q => hea q.1)]
        omega
    · rw [dn _ (by omega) (by omega) (by omega), h.2.2.2.1 b hb e he, c2 e b he hb (fun q => hb1 q.2)]
  · intro b hb q hq hc
    refine ⟨?_, fun k hk => by rw [dn (5 + 3 * b) (by omega) (by omega) (by omega)]⟩
    by_cases hb1 : b = 1
    · subst hb1
      have hc : F 7 q = nI e := hc
      show D 7 q = nI e
      rw [keep7 q (fun p hp hc2 => ?_) hq]
      · exact hc
      · obtain ⟨r, r1, r2, r3⟩ := hblk p hp
        have e1 : r = q := (nI_eq (by omega) (by omega)).mp (r2.symm.trans hc2)
        rw [← e1, r3, nI_eq (by omega) (by omega)] at hc
        exact hea hc.symm
    · rw [dn (4 + 3 * b) (by omega) (by omega) (by omega)]
      exact hc
  · rw [d20, t35]
    by_cases hff : f0 = f
    · rw [hff, pk_us, pk_us]
    · rw [pk_un hff, pk_un (by omega)]
      exact h1.1 f0 hf0
  · have e1 : kr_c T a 1 = kr_b T a 6 := by unfold kr_c; rw [if_pos ha, if_neg (by decide)]
    have e2 : kr_c S a 1 = kr_b S a 6 := by unfold kr_c; rw [if_pos ha, if_neg (by decide)]
    have := h1.2
    omega
  · have hff : f0 ≠ f := fun e => by
      rw [e, szf] at hlt
      omega
    rw [szo _ (by omega)] at hlt
    obtain ⟨r, r1, r2, r3⟩ := p1 f0 p hf0 hp hlt
    refine ⟨r, r1, by rw [d21, kl_21_at, if_neg (by omega)]; exact r2, ?_⟩
    rw [keep7 r (fun q hq hc => ?_) r1]
    · exact r3
    · have := p3 (6 * f + q) (6 * f0 + p) (by omega) (by omega) (by rw [hc]; exact nI_m1 (by omega)) (by rw [hc, r2])
      omega
  · rw [d21, kl_21_at]
    by_cases hr : 6 * f ≤ 6 * f0 + p ∧ 6 * f0 + p < 6 * f + m
    · rw [if_pos hr]
    · rw [if_neg hr]
      refine p2 f0 p hf0 hp (fun q => ?_)
      by_cases hff : f0 = f
      · subst hff
        rw [hn] at q
        omega
      · rw [szo _ (by omega)] at hlt
        exact hlt q
  · intro i j hi hj hne heq
    rw [d21, kl_21_at] at hne heq
    rw [kl_21_at] at heq
    by_cases hr : 6 * f ≤ i ∧ i < 6 * f + m
    · rw [if_pos hr] at hne
      exact absurd rfl hne
    · rw [if_neg hr] at hne heq
      by_cases hr2 : 6 * f ≤ j ∧ j < 6 * f + m
      · rw [if_pos hr2] at heq
        exact absurd heq hne
      · rw [if_neg hr2] at heq
        exact p3 i j hi hj hne heq
  · intro f0 i0 r0 hf0 hi0 hr0 hr24
    have hff : f0 ≠ f := fun e => by
      rw [e, szf] at hi0
      omega
    rw [szo _ (by omega)] at hi0
    have h240 := (hR.2.1 (6 * a + f0) (by omega)).2
    rw [d21, kl_21_at, if_neg (by omega)] at hr0
    obtain ⟨w1, w2⟩ := hwd f0 i0 r0 hf0 hi0 hr0 hr24
    rw [t34 _ (by omega), D5, D8]
    refine ⟨fun y r1 hy hyp hyf hr1 => ?_, fun hno => w2 (fun y hy => by rw [← dz y hy]; exact hno y hy)⟩
    rw [dz y hy] at hyp hyf ⊢
    exact w1 y r1 hy hyp hyf hr1
