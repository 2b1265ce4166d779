/-! what happens to an application and to the reference's picture of it -/
/-- the reference's rows of application a stay -/
def kr_sa (R S : kb_M) (a : Nat) : Prop := (∀ i, i < 144 → S 34 (144 * a + i) = R 34 (144 * a + i)) ∧ (∀ f, f < 6 → S 35 (6 * a + f) = R 35 (6 * a + f)) ∧ (∀ j, j < 3 → S 36 (3 * a + j) = R 36 (3 * a + j) ∧ S 37 (3 * a + j) = R 37 (3 * a + j)) ∧ S 38 a = R 38 a
theorem kr_b_sa {R S : kb_M} {a : Nat} (h : ∀ f, f < 6 → S 35 (6 * a + f) = R 35 (6 * a + f)) : ∀ n, n ≤ 6 → kr_b S a n = kr_b R a n := by
  intro n
  induction n with
  | zero => intro _; rfl
  | succ n ih =>
    intro hn
    unfold kr_b kr_sz
    rw [ih (by omega), h n (by omega)]
theorem ki_A_fr2 {N : Nat} {C D R S : kb_M} {a : Nat} (h : ki_A N C R a) (hR : kr_ok R) (ha : a < 2) (hrow : ∀ k, 19 + 7 * a ≤ k → k ≤ 25 + 7 * a → D k = C k) (hs : kr_sa R S a) (hk : ki_keep C D a) : ki_A N D S a := by
  obtain ⟨s34, s35, s367, s38⟩ := hs
  have hz : ∀ f, f < 6 → kr_sz S (6 * a + f) = kr_sz R (6 * a + f) := fun f hf => by unfold kr_sz; rw [s35 f hf]
  -- a reference that has these rows as its own
  have hT : ki_A N D R a := ki_A_fr h hR ha hrow (fun _ _ _ => rfl) hk
  obtain ⟨h1, h2, ⟨p1, p2, p3⟩, ⟨L, l1, l2, l3, l4, l5, l6⟩, hw⟩ := hT
  have hfr := (hR.2.2.1 a ha).2
  have hlen : ∀ (j s : Nat), L[j]? = some s → j < 3 := fun j s hj => by
    have := (List.getElem?_eq_some_iff.mp hj).1
    omega
  refine ⟨⟨fun f hf => by rw [s35 f hf]; exact h1.1 f hf, by rw [kr_b_sa s35 6 (Nat.le_refl _)]; exact h1.2⟩, h2, ⟨?_, ?_, p3⟩, ⟨L, ?_, l2, l3, l4, ?_, ?_⟩, ?_⟩
  · intro f p hf hp hlt
    rw [hz f hf] at hlt
    exact p1 f p hf hp hlt
  · intro f p hf hp hlt
    rw [hz f hf] at hlt
    exact p2 f p hf hp hlt
  · rw [l1]; unfold kr_fr; rw [s38]
  · intro j s hj
    obtain ⟨e1, e2⟩ := s367 j (hlen j s hj)
    obtain ⟨q1, q2, q3, ⟨f, p, f1, f2, f3, f4⟩, q5⟩ := l5 j s hj
    rw [e1, e2]
    exact ⟨q1, q2, q3, ⟨f, p, f1, f2, by rw [hz f f1]; exact f3, f4⟩, q5⟩
  · intro j i s z hji hj hi
    rw [(s367 j (hlen j s hj)).1, (s367 i (hlen i z hi)).1]
    exact l6 j i s z hji hj hi
  · intro f i r hf hi hr hr24
    rw [hz f hf] at hi
    have h24 := (hR.2.1 (6 * a + f) (by omega)).2
    rw [show 144 * a + 24 * f + i = 144 * a + (24 * f + i) by omega, s34 (24 * f + i) (by omega), ← show 144 * a + 24 * f + i = 144 * a + (24 * f + i) by omega]
    exact hw f i r hf hi hr hr24
/-- application a moves, all else stays -/
theorem kj_app {N : Nat} {C D R S : kb_M} (h : ki_J N C R) {a : Nat} (ha : a < 2) (hS : kr_ok S) (s39 : S 39 = R 39) (s41 : S 41 = R 41) (s42 : S 42 = R 42) (s43 : S 43 = R 43) (s44 : S 44 = R 44) (hH : ki_H D) (hN : ki_N D S) (hC : ∀ k, 9 ≤ k → k ≤ 18 → D k = C k) (hO : ∀ o, o < 2 → o ≠ a → (∀ k, 19 + 7 * o ≤ k → k ≤ 25 + 7 * o → D k = C k) ∧ kr_sa R S o) (hk : ∀ e, e < 4 → e ≠ a → ki_keep C D e) (hA : ki_A N D S a) : ki_J N D S := by
  obtain ⟨hR, hst, -, -, hG, hAA⟩ := h
  refine ⟨hS, by rw [s42]; exact hst, hH, hN, fun g hg => ?_, fun o ho => ?_⟩
  · exact ki_G_fr (hG g hg) hR hg (fun k h1 h2 => hC k (by omega) (by omega)) ⟨by rw [s39], fun t _ => ⟨by rw [s41], by rw [s42], by rw [s43]⟩, fun t k _ _ => by rw [s44]⟩ (hk (2 + g) (by omega) (by omega))
  · by_cases hoa : o = a
    · rw [hoa]; exact hA
    · obtain ⟨o1, o2⟩ := hO o ho hoa
      exact ki_A_fr2 (hAA o ho) hR ho o1 o2 (hk o (by omega) hoa)
/-- counts when nobody's holding changes -/
theorem kn_same {C D R S : kb_M} (h : ki_N C R) (hC : ∀ b, b < 2 → D (4 + 3 * b) = C (4 + 3 * b)) (s35 : S 35 = R 35) (s38 : S 38 = R 38) (s39 : S 39 = R 39) (s41 : S 41 = R 41) (s42 : S 42 = R 42) : ki_N D S := by
  intro b hb e he
  rw [hC b hb, h b hb e he]
  rcases kr_env2 he with he2 | ⟨d, hd, rfl⟩
  · rw [kr_c_app (R := R) (S := S) s35 s38 he2]
  · rw [kr_c_g hd, kr_c_g hd]
    have q := kr_l_eq (R := R) (S := S) (g := d) (b := nI b) (kr_bd R d) (fun u hu => ⟨by rw [s41], by rw [s42]⟩)
    unfold kr_bd at q ⊢
    rw [s39, q]
/-- a slot that holds a part: its place, its frame, its part's block -/
theorem ka_slot {N : Nat} {C R : kb_M} {a : Nat} (hA : ki_A N C R a) (hR : kr_ok R) (ha : a < 2) {L : List Nat} (hL : ki_B C R a L) {j s : Nat} (hj : L[j]? = some s) : s < 3 ∧ j < 3 ∧ ∃ r f p w, r < 12 ∧ C (23 + 7 * a + s) 0 = nI r ∧ C 4 r = nI a ∧ f < 6 ∧ p < 6 ∧ 4 * p < kr_sz R (6 * a + f) ∧ R 36 (3 * a + j) = nI (6 * f + p) ∧ C (23 + 7 * a + s) 1 = nI (6 * f + p) ∧ w < 24 ∧ C (21 + 7 * a) (6 * f + p) = nI w ∧ C 7 w = nI a := by
  obtain ⟨-, -, ⟨p1, -, -⟩, -, -⟩ := hA
  obtain ⟨l1, l2, l3, l4, l5, l6⟩ := hL
  obtain ⟨q1, q2, ⟨r, r1, r2, r3⟩, ⟨f, p, f1, f2, f3, f4⟩, q5⟩ := l5 j s hj
  obtain ⟨w, w1, w2, w3⟩ := p1 f p f1 f2 f3
  have hfr := (hR.2.2.1 a ha).2
  have hlt := (List.getElem?_eq_some_iff.mp hj).1
  exact ⟨l3 s (List.mem_of_getElem? hj), by omega, r, f, p, w, r1, r2, r3, f1, f2, f3, f4, q1.trans f4, w1, w2, w3⟩
/-- two places of the order are one if their slots are -/
theorem ka_inj {L : List Nat} (h : L.Nodup) {i j s : Nat} (hi : L[i]? = some s) (hj : L[j]? = some s) : i = j :=
  (List.getElem?_inj (List.getElem?_eq_some_iff.mp hi).1 h).mp (hi.trans hj.symm)
theorem kr_so_same {R : kb_M} {j : Nat} (h : R 37 j = 0) : kr_so R j = R := by
  unfold kr_so
  rw [if_pos h]
  funext k q
  by_cases h37 : k = 37
  · subst h37
    rw [kb_up_at, kb_up_ne _ _ _ (by decide)]
    unfold upd
    by_cases hq : q = j
    · rw [if_pos hq, hq, h]
    · rw [if_neg hq]
  · rw [kb_up_ne _ _ _ h37]
    by_cases h33 : k = 33
    · subst h33
      rw [kb_up_at]
      unfold upd
      by_cases hq : q = 1
      · rw [if_pos hq, hq]
      · rw [if_neg hq]
    · rw [kb_up_ne _ _ _ h33]
set_option maxHeartbeats 1000000 in
/-- a changed slot is stored -/
theorem ka_store {N : Nat} {C R : kb_M} (h : ki_J N C R) {a : Nat} (ha : a < 2) {L : List Nat} (hL : ki_B C R a L) {j s r f p w : Nat} (hj : L[j]? = some s) (hr : r < 12) (hfr : C (23 + 7 * a + s) 0 = nI r) (hf : f < 6) (hp : p < 6) (hpt : C (23 + 7 * a + s) 1 = nI (6 * f + p)) (hw : w < 24) (hb : C (21 + 7 * a) (6 * f + p) = nI w) (hch : R 37 (3 * a + j) ≠ 0) : ki_J N (ka_st C (19 + 7 * a) (23 + 7 * a + s) r w) (kr_so R (3 * a + j)) ∧ ki_B (ka_st C (19 + 7 * a) (23 + 7 * a + s) r w) (kr_so R (3 * a + j)) a L := by
  have hA := h.2.2.2.2.2 a ha
  have hR := h.1
  obtain ⟨hs3, hj3, r', f', p', w', g1, g2, g3, g4, g5, g6, g7, g8, g9, g10, g11⟩ := ka_slot hA hR ha hL hj
  obtain ⟨h1, h2, ⟨p1, p2, p3⟩, -, hwd⟩ := hA
  obtain ⟨l1, l2, l3, l4, l5, l6⟩ := hL
  have epf : 6 * f + p = 6 * f' + p' := (nI_eq (by omega) (by omega)).mp (hpt.symm.trans g8)
  have eff : f = f' := by omega
  have epp : p = p' := by omega
  subst eff
  subst epp
  have hown : C 7 w = nI a := by
    have e : nI w = nI w' := hb.symm.trans g10
    rw [nI_eq (by omega) (by omega)] at e
    rw [e]; exact g11
  generalize hD : ka_st C (19 + 7 * a) (23 + 7 * a + s) r w = D
  generalize hS : kr_so R (3 * a + j) = S
  have d8 : D 8 = va_cpy (C 5) (C 8) (4 * r) (4 * w) 4 := by rw [← hD]; unfold ka_st kp_cp; rw [kb_up_ne _ _ _ (by omega), kb_up_ne _ _ _ (by omega), kb_ro_at]
  have dc : D (19 + 7 * a) = upd (C (19 + 7 * a)) 1 (C (19 + 7 * a) 1 + 1) := by rw [← hD]; unfold ka_st kp_cp; rw [kb_up_at, kb_up_ne _ _ _ (by omega), kb_ro_ne _ _ (by omega)]
  have dz : D (23 + 7 * a + s) = upd (C (23 + 7 * a + s)) 3 0 := by rw [← hD]; unfold ka_st kp_cp; rw [kb_up_ne _ _ _ (by omega), kb_up_at, kb_ro_ne _ _ (by omega)]
  have dn : ∀ k, k ≠ 8 → k ≠ 19 + 7 * a → k ≠ 23 + 7 * a + s → D k = C k := fun k q1 q2 q3 => by rw [← hD]; unfold ka_st kp_cp; rw [kb_up_ne _ _ _ q2, kb_up_ne _ _ _ q3, kb_ro_ne _ _ q1]
  have dsl : ∀ y q, y < 3 → q ≠ 3 → D (23 + 7 * a + y) q = C (23 + 7 * a + y) q := by
    intro y q hy hq
    by_cases hys : y = s
    · rw [hys, dz, pk_un hq]
    · rw [dn _ (by omega) (by omega) (by omega)]
  have sn : ∀ k, k ≠ 33 → k ≠ 37 → S k = R k := fun k q1 q2 => by rw [← hS]; unfold kr_so; rw [kb_up_ne _ _ _ q2, kb_up_ne _ _ _ q1]
  have s37 : S 37 = upd (R 37) (3 * a + j) 0 := by rw [← hS]; unfold kr_so; rw [kb_up_at, kb_up_ne _ _ _ (by decide)]
  have hB : ki_B D S a L := by
    refine ⟨by rw [l1]; unfold kr_fr; rw [sn 38 (by decide) (by decide)], l2, l3, fun y hy hn => ?_, fun i y hi => ?_, fun i k y z hik hi hk => ?_⟩
    · have hys : y ≠ s := fun q => hn (by rw [q]; exact List.mem_of_getElem? hj)
      rw [dn _ (by omega) (by omega) (by omega)]
      exact l4 y hy hn
    · have hy := l3 y (List.mem_of_getElem? hi)
      obtain ⟨q1, q2, ⟨r1, r2, r3, r4⟩, ⟨f1, p1', q6, q7, q8, q9⟩, ⟨u, v, q10, q11, q12⟩⟩ := l5 i y hi
      rw [dsl y 0 hy (by decide), dsl y 1 hy (by decide), dsl y 2 hy (by decide), dn 4 (by omega) (by omega) (by omega), sn 36 (by decide) (by decide), dc, pk_un (show (7 : Nat) ≠ 1 by decide)]
      refine ⟨q1, ?_, ⟨r1, r2, r3, r4⟩, ⟨f1, p1', q6, q7, by unfold kr_sz; rw [sn 35 (by decide) (by decide)]; exact q8, q9⟩, ⟨u, v, q10, q11, q12⟩⟩
      rw [s37]
      by_cases hys : y = s
      · have hij : i = j := ka_inj l2 hi (by rw [hys]; exact hj)
        rw [hys, dz, hij, pk_us, pk_us]
      · have hij : i ≠ j := fun q => hys (by
          rw [q, hj] at hi
          exact (Option.some.inj hi).symm)
        rw [dn _ (by omega) (by omega) (by omega), pk_un (by omega)]
        exact q2
    · have hy := l3 y (List.mem_of_getElem? hi)
      have hz := l3 z (List.mem_of_getElem? hk)
      rw [dsl y 2 hy (by decide), dsl z 2 hz (by decide), dsl y 0 hy (by decide), dsl z 0 hz (by decide), sn 36 (by decide) (by decide)]
      exact l6 i k y z hik hi hk
  refine ⟨?_, hB⟩
  refine kj_app h ha (by rw [← hS]; exact kr_so_ok hR _) (sn 39 (by decide) (by decide)) (sn 41 (by decide) (by decide)) (sn 42 (by decide) (by decide)) (sn 43 (by decide) (by decide)) (sn 44 (by decide) (by decide)) (fun b hb' q hq => ?_) (kn_same h.2.2.2.1 (fun b hb' => dn _ (by omega) (by omega) (by omega)) (sn 35 (by decide) (by decide)) (sn 38 (by decide) (by decide)) (sn 39 (by decide) (by decide)) (sn 41 (by decide) (by decide)) (sn 42 (by decide) (by decide))) (fun k q1 q2 => dn k (by omega) (by omega) (by omega)) (fun o ho hoa => ⟨fun k q1 q2 => dn k (by omega) (by omega) (by omega), fun i _ => by rw [sn 34 (by decide) (by decide)], fun f _ => by rw [sn 35 (by decide) (by decide)], fun i hi => ⟨by rw [sn 36 (by decide) (by decide)], by rw [s37, pk_un (by omega)]⟩, by rw [sn 38 (by decide) (by decide)]⟩) (fun e he hea => ?_) ?_
  · rw [dn _ (by omega) (by omega) (by omega)]
    exact h.2.2.1 b hb' q hq
  · intro b hb' q hq hce
    rw [dn (4 + 3 * b) (by omega) (by omega) (by omega)]
    refine ⟨hce, fun k hk => ?_⟩
    by_cases hb1 : b = 1
    · subst hb1
      have hqw : q ≠ w := fun z => by
        have hce : C 7 q = nI e := hce
        rw [z, hown, nI_eq (by omega) (by omega)] at hce
        exact hea hce.symm
      show D 8 (4 * q + k) = C 8 (4 * q + k)
      rw [d8, pk_cpy_out (by omega)]
    · rw [dn (5 + 3 * b) (by omega) (by omega) (by omega)]
  · refine ⟨⟨by rw [dn (20 + 7 * a) (by omega) (by omega) (by omega), sn 35 (by decide) (by decide)]; exact h1.1, by rw [kr_b_eq (sn 35 (by decide) (by decide))]; exact h1.2⟩, by rw [dc, pk_un (show (7 : Nat) ≠ 1 by decide)]; exact h2, ⟨?_, ?_, ?_⟩, ⟨L, hB⟩, ?_⟩
    · rw [dn (21 + 7 * a) (by omega) (by omega) (by omega), dn 7 (by omega) (by omega) (by omega)]
      unfold kr_sz
      rw [sn 35 (by decide) (by decide)]
      exact p1
    · rw [dn (21 + 7 * a) (by omega) (by omega) (by omega)]
      unfold kr_sz
      rw [sn 35 (by decide) (by decide)]
      exact p2
    · rw [dn (21 + 7 * a) (by omega) (by omega) (by omega)]
      exact p3
    · intro f0 i0 r0 hf0 hi0 hr0 hr24
      unfold kr_sz at hi0
      rw [sn 35 (by decide) (by decide)] at hi0
      have h24 := (hR.2.1 (6 * a + f0) (by omega)).2
      have hi24 : i0 < kr_sz R (6 * a + f0) := hi0
      rw [dn (21 + 7 * a) (by omega) (by omega) (by omega)] at hr0
      rw [sn 34 (by decide) (by decide), dn 5 (by omega) (by omega) (by omega)]
      obtain ⟨w1, w2⟩ := hwd f0 i0 r0 hf0 hi0 hr0 hr24
      by_cases hpart : 6 * f0 + i0 / 4 = 6 * f + p
      · -- the part that is stored
        have er : r0 = w := (nI_eq (by omega) (by omega)).mp (hr0.symm.trans (by rw [hpart]; exact hb))
        subst er
        refine ⟨fun y r1 hy hyp hyf hr1 => ?_, fun hno => ?_⟩
        · rw [dsl y 1 hy (by decide)] at hyp
          rw [dsl y 0 hy (by decide)] at hyf
          refine ⟨(w1 y r1 hy hyp hyf hr1).1, fun _ => ?_⟩
          have hv := (w1 s r hs3 (by rw [hpart]; exact hpt) hfr hr).1
          rw [d8, pk_cpy_in (by omega) (by omega), show 4 * r + (4 * r0 + i0 % 4 - 4 * r0) = 4 * r + i0 % 4 by omega]
          exact hv
        · exact absurd (by rw [dsl s 1 hs3 (by decide), hpart]; exact hpt) (hno s hs3)
      · have hrw : r0 ≠ w := fun q => hpart (p3 _ _ (by omega) (by omega) (by rw [hr0]; exact nI_m1 (by omega)) (by rw [hr0, hb, q]))
        rw [d8, pk_cpy_out (by omega)]
        refine ⟨fun y r1 hy hyp hyf hr1 => ?_, fun hno => ?_⟩
        · rw [dsl y 1 hy (by decide)] at hyp
          rw [dsl y 0 hy (by decide)] at hyf
          have hys : y ≠ s := fun q => hpart (by
            rw [q, hpt, nI_eq (by omega) (by omega)] at hyp
            exact hyp.symm)
          rw [dn (23 + 7 * a + y) (by omega) (by omega) (by omega)]
          exact w1 y r1 hy hyp hyf hr1
        · exact w2 (fun y hy => by rw [← dsl y 1 hy (by decide)]; exact hno y hy)
