/-! a slot gives its frame back -/
theorem kr_rm_rows (R : kb_M) (a j : Nat) : (∀ k, k ≠ 36 → k ≠ 37 → k ≠ 38 → (kr_rm R a j) k = R k) ∧ (kr_rm R a j) 38 = upd (R 38) a (nI (kr_fr R a - 1)) ∧ (∀ q, (kr_rm R a j) 36 q = if 3 * a + j ≤ q ∧ q < 3 * a + (kr_fr R a - 1) then R 36 (q + 1) else R 36 q) ∧ (∀ q, (kr_rm R a j) 37 q = if 3 * a + j ≤ q ∧ q < 3 * a + (kr_fr R a - 1) then R 37 (q + 1) else R 37 q) := by
  refine ⟨fun k g1 g2 g3 => ?_, ?_, fun q => ?_, fun q => ?_⟩
  · unfold kr_rm; rw [kb_up_ne _ _ _ g3, kr_ri1_ne _ _ _ _ g1 g2]
  · unfold kr_rm; rw [kb_up_at, kr_ri1_ne _ _ _ _ (by decide) (by decide)]
  · unfold kr_rm; rw [kb_up_ne _ _ _ (by decide), kr_ri1_36]
  · unfold kr_rm; rw [kb_up_ne _ _ _ (by decide), kr_ri1_37]
/-- the place of the shortened order -/
def ka_pl (j i : Nat) : Nat := if i < j then i else i + 1
theorem ka_er {L : List Nat} {j i s : Nat} (h : (L.eraseIdx j)[i]? = some s) : L[ka_pl j i]? = some s := by
  unfold ka_pl
  by_cases hij : i < j
  · rw [if_pos hij]
    rw [List.getElem?_eraseIdx_of_lt hij] at h
    exact h
  · rw [if_neg hij]
    rw [List.getElem?_eraseIdx_of_ge (by omega)] at h
    exact h
theorem ka_er_mem {L : List Nat} {j s y : Nat} (hd : L.Nodup) (hj : L[j]? = some s) : y ∈ L.eraseIdx j ↔ y ∈ L ∧ y ≠ s := by
  constructor
  · intro h
    obtain ⟨i, hi⟩ := List.getElem?_of_mem h
    have h1 := ka_er hi
    refine ⟨List.mem_of_getElem? h1, fun q => ?_⟩
    rw [q] at h1
    have := ka_inj hd h1 hj
    unfold ka_pl at this
    split at this <;> omega
  · rintro ⟨h1, h2⟩
    obtain ⟨i, hi⟩ := List.getElem?_of_mem h1
    have hij : i ≠ j := fun q => h2 (by rw [q, hj] at hi; exact (Option.some.inj hi).symm)
    by_cases hlt : i < j
    · exact List.mem_of_getElem? (i := i) (by rw [List.getElem?_eraseIdx_of_lt hlt]; exact hi)
    · exact List.mem_of_getElem? (i := i - 1) (by rw [List.getElem?_eraseIdx_of_ge (by omega), show i - 1 + 1 = i by omega]; exact hi)
set_option maxHeartbeats 1000000 in
/-- a slot whose words lie in their block gives its frame back -/
theorem ka_out {N : Nat} {C R : kb_M} (h : ki_J N C R) {a : Nat} (ha : a < 2) {L : List Nat} (hL : ki_B C R a L) {j s r : Nat} (hj : L[j]? = some s) (hr : r < 12) (hfr : C (23 + 7 * a + s) 0 = nI r) (hch : R 37 (3 * a + j) = 0) : ki_J N (ka_gf C (23 + 7 * a + s) r) (kr_rm R a j) ∧ ki_B (ka_gf C (23 + 7 * a + s) r) (kr_rm R a j) a (L.eraseIdx j) := by
  have hA := h.2.2.2.2.2 a ha
  have hR := h.1
  obtain ⟨hs3, hj3, r', f, p, w, g1, g2, g3, g4, g5, g6, g7, g8, g9, g10, g11⟩ := ka_slot hA hR ha hL hj
  obtain ⟨h1, h2, ⟨p1, p2, p3⟩, -, hwd⟩ := hA
  obtain ⟨l1, l2, l3, l4, l5, l6⟩ := hL
  have err : r = r' := (nI_eq (by omega) (by omega)).mp (hfr.symm.trans g2)
  subst err
  have hjl : j < kr_fr R a := by rw [← l1]; exact (List.getElem?_eq_some_iff.mp hj).1
  have hfl := (hR.2.2.1 a ha).2
  obtain ⟨hS, hSf⟩ := kr_rm_ok hR ha hjl
  obtain ⟨sn, s38, s36, s37⟩ := kr_rm_rows R a j
  generalize hSe : kr_rm R a j = S at *
  generalize hD : ka_gf C (23 + 7 * a + s) r = D
  have d4 : D 4 = upd (C 4) r (-1) := by rw [← hD]; unfold ka_gf; rw [kb_up_ne _ _ _ (by omega), kb_up_ne _ _ _ (by omega), kb_up_ne _ _ _ (by omega), kb_up_at]
  have dz : D (23 + 7 * a + s) = upd (upd (upd (C (23 + 7 * a + s)) 0 (-1)) 1 (-1)) 3 0 := by rw [← hD]; unfold ka_gf; rw [kb_up_at, kb_up_at, kb_up_at, kb_up_ne _ _ _ (by omega)]
  have dn : ∀ k, k ≠ 4 → k ≠ 23 + 7 * a + s → D k = C k := fun k q1 q2 => by rw [← hD]; unfold ka_gf; rw [kb_up_ne _ _ _ q2, kb_up_ne _ _ _ q2, kb_up_ne _ _ _ q2, kb_up_ne _ _ _ q1]
  have dzo : ∀ y, y ≠ s → D (23 + 7 * a + y) = C (23 + 7 * a + y) := fun y hy => dn _ (by omega) (by omega)
  have pl : ∀ i y, (L.eraseIdx j)[i]? = some y → ka_pl j i < kr_fr R a ∧ S 36 (3 * a + i) = R 36 (3 * a + ka_pl j i) ∧ S 37 (3 * a + i) = R 37 (3 * a + ka_pl j i) ∧ y ≠ s ∧ y < 3 := by
    intro i y hi
    have h1 := ka_er hi
    have h2 : ka_pl j i < kr_fr R a := by rw [← l1]; exact (List.getElem?_eq_some_iff.mp h1).1
    have hne := ((ka_er_mem l2 hj).mp (List.mem_of_getElem? hi)).2
    refine ⟨h2, ?_, ?_, hne, l3 y (List.mem_of_getElem? h1)⟩
    · rw [s36]
      unfold ka_pl at h2 ⊢
      by_cases hij : i < j
      · rw [if_pos hij, if_neg (by omega)]
      · rw [if_neg hij] at h2 ⊢
        rw [if_pos (by omega)]
        congr 1
    · rw [s37]
      unfold ka_pl at h2 ⊢
      by_cases hij : i < j
      · rw [if_pos hij, if_neg (by omega)]
      · rw [if_neg hij] at h2 ⊢
        rw [if_pos (by omega)]
        congr 1
  have hB : ki_B D S a (L.eraseIdx j) := by
    refine ⟨?_, l2.eraseIdx j, fun y hy => l3 y ((ka_er_mem l2 hj).mp hy).1, fun y hy hn => ?_, fun i y hi => ?_, fun i k y z hik hi hk => ?_⟩
    · rw [List.length_eraseIdx_of_lt (by rw [l1]; exact hjl), l1, hSf]
    · by_cases hys : y = s
      · rw [hys, dz]
        exact ⟨by rw [pk_un (by decide), pk_un (by decide), pk_us], by rw [pk_un (by decide), pk_us], pk_us⟩
      · rw [dzo y hys]
        exact l4 y hy (fun q => hn ((ka_er_mem l2 hj).mpr ⟨q, hys⟩))
    · obtain ⟨q1, q2, q3, q4, q5⟩ := pl i y hi
      obtain ⟨m1, m2, ⟨r1, m3, m4, m5⟩, ⟨f1, p1', m6, m7, m8, m9⟩, ⟨u, v, m10, m11, m12⟩⟩ := l5 _ y (ka_er hi)
      rw [dzo y q4, q2, q3, dn (19 + 7 * a) (by omega) (by omega)]
      refine ⟨m1, m2, ⟨r1, m3, m4, ?_⟩, ⟨f1, p1', m6, m7, by unfold kr_sz; rw [sn 35 (by decide) (by decide) (by decide)]; exact m8, m9⟩, ⟨u, v, m10, m11, m12⟩⟩
      have hrr : r1 ≠ r := by
        intro q
        have hpj : ka_pl j i ≠ j := by unfold ka_pl; split <;> omega
        by_cases hlt : ka_pl j i < j
        · exact (l6 _ _ y s hlt (ka_er hi) hj).2.2 (by rw [m4, hfr, q])
        · exact (l6 _ _ s y (by omega) hj (ka_er hi)).2.2 (by rw [m4, hfr, q])
      rw [d4, pk_un hrr]
      exact m5
    · obtain ⟨q1, q2, q3, q4, q5⟩ := pl i y hi
      obtain ⟨t1, t2, t3, t4, t5⟩ := pl k z hk
      rw [dzo y q4, dzo z t4, q2, t2]
      exact l6 _ _ y z (by unfold ka_pl; split <;> split <;> omega) (ka_er hi) (ka_er hk)
  refine ⟨?_, hB⟩
  refine kj_app h ha hS (sn 39 (by decide) (by decide) (by decide)) (sn 41 (by decide) (by decide) (by decide)) (sn 42 (by decide) (by decide) (by decide)) (sn 43 (by decide) (by decide) (by decide)) (sn 44 (by decide) (by decide) (by decide)) (fun b hb' q hq => ?_) (fun b hb' e he => ?_) (fun k q1 q2 => dn k (by omega) (by omega)) (fun o ho hoa => ⟨fun k q1 q2 => dn k (by omega) (by omega), fun i _ => by rw [sn 34 (by decide) (by decide) (by decide)], fun f _ => by rw [sn 35 (by decide) (by decide) (by decide)], fun i hi => ⟨by rw [s36, if_neg (by omega)], by rw [s37, if_neg (by omega)]⟩, by rw [s38, pk_un hoa]⟩) (fun e he hea => ?_) ?_
  · by_cases hb0 : b = 0
    · subst hb0
      show D 4 q = -1 ∨ ∃ e, e < 4 ∧ D 4 q = nI e
      rw [d4]
      unfold upd
      by_cases hqr : q = r
      · rw [if_pos hqr]; exact Or.inl rfl
      · rw [if_neg hqr]; exact h.2.2.1 0 hb' q hq
    · rw [dn _ (by omega) (by omega)]
      exact h.2.2.1 b hb' q hq
  · have hold := h.2.2.2.1 b hb' e he
    have s35 := sn 35 (by decide) (by decide) (by decide)
    have hcnt : kr_c S e b + (if b = 0 ∧ e = a then 1 else 0) = kr_c R e b := by
      rcases kr_env2 he with he2 | ⟨d, hd, rfl⟩
      · unfold kr_c
        rw [if_pos he2, if_pos he2, kr_b_eq s35]
        by_cases hb0 : b = 0
        · rw [if_pos hb0, if_pos hb0]
          unfold kr_fr
          rw [s38]
          unfold upd
          by_cases hea : e = a
          · rw [if_pos hea, if_pos ⟨hb0, hea⟩, nI_clamp (by omega), hea]
            have : (R 38 a).toNatClampNeg = kr_fr R a := rfl
            omega
          · rw [if_neg hea, if_neg (fun q => hea q.2)]
            omega
        · rw [if_neg hb0, if_neg hb0, if_neg (fun q => hb0 q.1)]
          omega
      · rw [kr_c_g hd, kr_c_g hd, if_neg (by omega)]
        have q := kr_l_eq (R := R) (S := S) (g := d) (b := nI b) (kr_bd R d) (fun u hu => ⟨by rw [sn 41 (by decide) (by decide) (by decide)], by rw [sn 42 (by decide) (by decide) (by decide)]⟩)
        unfold kr_bd at q ⊢
        rw [sn 39 (by decide) (by decide) (by decide), q]
        rfl
    by_cases hb0 : b = 0
    · subst hb0
      show kp_c (D 4) (nI e) (12 + 12 * 0) = kr_c S e 0
      have h1 := kp_c_upd (f := C 4) (r := r) (x := -1) (e := nI e) (12 + 12 * 0) (by omega)
      rw [g3, if_neg (show ¬ (-1 : Int32) = nI e from fun q => nI_m1 (a := e) (by omega) q.symm)] at h1
      have hold : kp_c (C 4) (nI e) (12 + 12 * 0) = kr_c R e 0 := hold
      rw [d4]
      by_cases hea : e = a
      · rw [if_pos (by rw [hea])] at h1
        rw [if_pos ⟨rfl, hea⟩] at hcnt
        omega
      · rw [if_neg (nI_ne (by omega) (by omega) (fun q => hea q.symm))] at h1
        rw [if_neg (fun q => hea q.2)] at hcnt
        omega
    · rw [dn _ (by omega) (by omega), hold, ← hcnt, if_neg (fun q => hb0 q.1)]
      rfl
  · intro b hb' q hq hce
    refine ⟨?_, fun k hk => by rw [dn (5 + 3 * b) (by omega) (by omega)]⟩
    by_cases hb0 : b = 0
    · subst hb0
      have hce : C 4 q = nI e := hce
      have hqr : q ≠ r := fun z => by
        rw [z, g3, nI_eq (by omega) (by omega)] at hce
        exact hea hce.symm
      show D 4 q = nI e
      rw [d4, pk_un hqr]
      exact hce
    · rw [dn _ (by omega) (by omega)]
      exact hce
  · have s35 := sn 35 (by decide) (by decide) (by decide)
    refine ⟨⟨by rw [dn (20 + 7 * a) (by omega) (by omega), s35]; exact h1.1, by rw [kr_b_eq s35]; exact h1.2⟩, by rw [dn (19 + 7 * a) (by omega) (by omega)]; exact h2, ⟨?_, ?_, ?_⟩, ⟨_, hB⟩, ?_⟩
    · rw [dn (21 + 7 * a) (by omega) (by omega), dn 7 (by omega) (by omega)]
      unfold kr_sz
      rw [s35]
      exact p1
    · rw [dn (21 + 7 * a) (by omega) (by omega)]
      unfold kr_sz
      rw [s35]
      exact p2
    · rw [dn (21 + 7 * a) (by omega) (by omega)]
      exact p3
    · intro f0 i0 r0 hf0 hi0 hr0 hr24
      unfold kr_sz at hi0
      rw [s35] at hi0
      have h24 := (hR.2.1 (6 * a + f0) (by omega)).2
      have hi24 : i0 < kr_sz R (6 * a + f0) := hi0
      rw [dn (21 + 7 * a) (by omega) (by omega)] at hr0
      rw [sn 34 (by decide) (by decide) (by decide), dn 5 (by omega) (by omega), dn 8 (by omega) (by omega)]
      obtain ⟨w1, w2⟩ := hwd f0 i0 r0 hf0 hi0 hr0 hr24
      refine ⟨fun y r1 hy hyp hyf hr1 => ?_, fun hno => ?_⟩
      · have hys : y ≠ s := fun q => by
          rw [q, dz, pk_un (by decide), pk_us] at hyp
          exact nI_m1 (by omega) hyp.symm
        rw [dzo y hys] at hyp hyf ⊢
        exact w1 y r1 hy hyp hyf hr1
      · by_cases hpart : 6 * f0 + i0 / 4 = 6 * f + p
        · exact (w1 s r hs3 (by rw [hpart]; exact g8) hfr hr).2 ((l5 j s hj).2.1.trans hch)
        · refine w2 (fun y hy => ?_)
          by_cases hys : y = s
          · rw [hys, g8]
            exact nI_ne (by omega) (by omega) (fun q => hpart q.symm)
          · rw [← dzo y hys]
            exact hno y hy
