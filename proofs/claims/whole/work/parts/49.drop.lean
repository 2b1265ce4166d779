/-! a part is dropped, changed or not: the reference's words of it become the block's -/
set_option maxHeartbeats 1000000 in
theorem ka_drop {N : Nat} {C R S : kb_M} (h : ki_J N C R) {a : Nat} (ha : a < 2) {L : List Nat} (hL : ki_B C R a L) {j s r f p w : Nat} (hj : L[j]? = some s) (hr : r < 12) (hfr : C (23 + 7 * a + s) 0 = nI r) (hf : f < 6) (hp : p < 6) (hpt : C (23 + 7 * a + s) 1 = nI (6 * f + p)) (hw : w < 24) (hb : C (21 + 7 * a) (6 * f + p) = nI w) (tn : ∀ k, k ≠ 34 → S k = (kr_rm R a j) k) (t34 : ∀ i, S 34 i = if 144 * a + 24 * f + 4 * p ≤ i ∧ i < 144 * a + 24 * f + 4 * p + 4 then C 8 (4 * w + (i - (144 * a + 24 * f + 4 * p))) else R 34 i) : ki_J N (ka_gf C (23 + 7 * a + s) r) S ∧ ki_B (ka_gf C (23 + 7 * a + s) r) S a (L.eraseIdx j) := by
  have hA := h.2.2.2.2.2 a ha
  have hR := h.1
  obtain ⟨hs3, hj3, r', -, -, -, g1, g2, g3, -⟩ := ka_slot hA hR ha hL hj
  obtain ⟨h1, h2, ⟨p1, p2, p3⟩, -, hwd⟩ := hA
  have hL0 := hL
  obtain ⟨l1, l2, l3, l4, l5, l6⟩ := hL
  have err : r = r' := (nI_eq (by omega) (by omega)).mp (hfr.symm.trans g2)
  subst err
  have hjl : j < kr_fr R a := by rw [← l1]; exact (List.getElem?_eq_some_iff.mp hj).1
  have hfl := (hR.2.2.1 a ha).2
  obtain ⟨hS, hSf⟩ := kr_rm_ok hR ha hjl
  obtain ⟨sn, s38, s36, s37⟩ := kr_rm_rows R a j
  have hS := kr_ok_eq (S := S) hS (tn 35 (by decide)) (tn 37 (by decide)) (tn 38 (by decide)) (tn 39 (by decide)) (tn 41 (by decide))
  have hSf : kr_fr S a = kr_fr R a - 1 := by
    unfold kr_fr at hSf ⊢
    rw [tn 38 (by decide)]
    exact hSf
  have sn : ∀ k, k ≠ 34 → k ≠ 36 → k ≠ 37 → k ≠ 38 → S k = R k := fun k k0 k1 k2 k3 => (tn k k0).trans (sn k k1 k2 k3)
  rw [← tn 38 (by decide)] at s38
  rw [← tn 36 (by decide)] at s36
  rw [← tn 37 (by decide)] at s37
  generalize hD : ka_gf C (23 + 7 * a + s) r = D
  have d4 : D 4 = upd (C 4) r (-1) := by rw [← hD]; unfold ka_gf; rw [kb_up_ne _ _ _ (by omega), kb_up_ne _ _ _ (by omega), kb_up_ne _ _ _ (by omega), kb_up_at]
  have dz : D (23 + 7 * a + s) = upd (upd (upd (C (23 + 7 * a + s)) 0 (-1)) 1 (-1)) 3 0 := by rw [← hD]; unfold ka_gf; rw [kb_up_at, kb_up_at, kb_up_at, kb_up_ne _ _ _ (by omega)]
  have dn : ∀ k, k ≠ 4 → k ≠ 23 + 7 * a + s → D k = C k := fun k q1 q2 => by rw [← hD]; unfold ka_gf; rw [kb_up_ne _ _ _ q2, kb_up_ne _ _ _ q2, kb_up_ne _ _ _ q2, kb_up_ne _ _ _ q1]
  have dzo : ∀ y, y ≠ s → D (23 + 7 * a + y) = C (23 + 7 * a + y) := fun y hy => dn _ (by omega) (by omega)
  have pl : ∀ i y, (L.eraseIdx j)[i]? = some y → ka_pl j i < kr_fr R a ∧ S 36 (3 * a + i) = R 36 (3 * a + ka_pl j i) ∧ S 37 (3 * a + i) = R 37 (3 * a + ka_pl j i) ∧ y ≠ s ∧ y < 3 := by
    intro i y hi
    have h1 := ka_er hi
    have h2 : ka_pl j i < kr_fr R a := by rw [← l1]; exact (List.getElem?_eq_some_iff.mp h1).1
    have hne := ((ka_er_mem l2 hj).mp (List.mem_of_getElem? hi)).2
    refine ⟨h2, ?_, ?_, hne, l3 y (List.mem_of_getElem? h1)⟩
    · rw [s36]
      unfold ka_pl at h2 ⊢
      by_cases hij : i < j
      · rw [if_pos hij, if_neg (by omega)]
      · rw [if_neg hij] at h2 ⊢
        rw [if_pos (by omega)]
        congr 1
    · rw [s37]
      unfold ka_pl at h2 ⊢
      by_cases hij : i < j
      · rw [if_pos hij, if_neg (by omega)]
      · rw [if_neg hij] at h2 ⊢
        rw [if_pos (by omega)]
        congr 1
  have hB : ki_B D S a (L.eraseIdx j) := by
    refine ⟨?_, l2.eraseIdx j, fun y hy => l3 y ((ka_er_mem l2 hj).mp hy).1, fun y hy hn => ?_, fun i y hi => ?_, fun i k y z hik hi hk => ?_⟩
    · rw [List.length_eraseIdx_of_lt (by rw [l1]; exact hjl), l1, hSf]
    · by_cases hys : y = s
      · rw [hys, dz]
        exact ⟨by rw [pk_un (by decide), pk_un (by decide), pk_us], by rw [pk_un (by decide), pk_us], pk_us⟩
      · rw [dzo y hys]
        exact l4 y hy (fun q => hn ((ka_er_mem l2 hj).mpr ⟨q, hys⟩))
    · obtain ⟨q1, q2, q3, q4, q5⟩ := pl i y hi
      obtain ⟨m1, m2, ⟨r1, m3, m4, m5⟩, ⟨f1, p1', m6, m7, m8, m9⟩, ⟨u, v, m10, m11, m12⟩⟩ := l5 _ y (ka_er hi)
      rw [dzo y q4, q2, q3, dn (19 + 7 * a) (by omega) (by omega)]
      refine ⟨m1, m2, ⟨r1, m3, m4, ?_⟩, ⟨f1, p1', m6, m7, by unfold kr_sz; rw [sn 35 (by decide) (by decide) (by decide) (by decide)]; exact m8, m9⟩, ⟨u, v, m10, m11, m12⟩⟩
      have hrr : r1 ≠ r := by
        intro q
        have hpj : ka_pl j i ≠ j := by unfold ka_pl; split <;> omega
        by_cases hlt : ka_pl j i < j
        · exact (l6 _ _ y s hlt (ka_er hi) hj).2.2 (by rw [m4, hfr, q])
        · exact (l6 _ _ s y (by omega) hj (ka_er hi)).2.2 (by rw [m4, hfr, q])
      rw [d4, pk_un hrr]
      exact m5
    · obtain ⟨q1, q2, q3, q4, q5⟩ := pl i y hi
      obtain ⟨t1, t2, t3, t4, t5⟩ := pl k z hk
      rw [dzo y q4, dzo z t4, q2, t2]
      exact l6 _ _ y z (by unfold ka_pl; split <;> split <;> omega) (ka_er hi) (ka_er hk)
  refine ⟨?_, hB⟩
  refine kj_app h ha hS (sn 39 (by decide) (by decide) (by decide) (by decide)) (sn 41 (by decide) (by decide) (by decide) (by decide)) (sn 42 (by decide) (by decide) (by decide) (by decide)) (sn 43 (by decide) (by decide) (by decide) (by decide)) (sn 44 (by decide) (by decide) (by decide) (by decide)) (fun b hb' q hq => ?_) (fun b hb' e he => ?_) (fun k q1 q2 => dn k (by omega) (by omega)) (fun o ho hoa => ⟨fun k q1 q2 => dn k (by omega) (by omega), fun i _ => by rw [t34, if_neg (by omega)], fun f _ => by rw [sn 35 (by decide) (by decide) (by decide) (by decide)], fun i hi => ⟨by rw [s36, if_neg (by omega)], by rw [s37, if_neg (by omega)]⟩, by rw [s38, pk_un hoa]⟩) (fun e he hea => ?_) ?_
  · by_cases hb0 : b = 0
    · subst hb0
      show D 4 q = -1 ∨ ∃ e, e < 4 ∧ D 4 q = nI e
      rw [d4]
      unfold upd
      by_cases hqr : q = r
      · rw [if_pos hqr]; exact Or.inl rfl
      · rw [if_neg hqr]; exact h.2.2.1 0 hb' q hq
    · rw [dn _ (by omega) (by omega)]
      exact h.2.2.1 b hb' q hq
  · have hold := h.2.2.2.1 b hb' e he
    have s35 := sn 35 (by decide) (by decide) (by decide) (by decide)
    have hcnt : kr_c S e b + (if b = 0 ∧ e = a then 1 else 0) = kr_c R e b := by
      rcases kr_env2 he with he2 | ⟨d, hd, rfl⟩
      · unfold kr_c
        rw [if_pos he2, if_pos he2, kr_b_eq s35]
        by_cases hb0 : b = 0
        · rw [if_pos hb0, if_pos hb0]
          unfold kr_fr
          rw [s38]
          unfold upd
          by_cases hea : e = a
          · rw [if_pos hea, if_pos ⟨hb0, hea⟩, nI_clamp (by omega), hea]
            have : (R 38 a).toNatClampNeg = kr_fr R a := rfl
            omega
          · rw [if_neg hea, if_neg (fun q => hea q.2)]
            omega
        · rw [if_neg hb0, if_neg hb0, if_neg (fun q => hb0 q.1)]
          omega
      · rw [kr_c_g hd, kr_c_g hd, if_neg (by omega)]
        have q := kr_l_eq (R := R) (S := S) (g := d) (b := nI b) (kr_bd R d) (fun u hu => ⟨by rw [sn 41 (by decide) (by decide) (by decide) (by decide)], by rw [sn 42 (by decide) (by decide) (by decide) (by decide)]⟩)
        unfold kr_bd at q ⊢
        rw [sn 39 (by decide) (by decide) (by decide) (by decide), q]
        rfl
    by_cases hb0 : b = 0
    · subst hb0
      show kp_c (D 4) (nI e) (12 + 12 * 0) = kr_c S e 0
      have h1 := kp_c_upd (f := C 4) (r := r) (x := -1) (e := nI e) (12 + 12 * 0) (by omega)
      rw [g3, if_neg (show ¬ (-1 : Int32) = nI e from fun q => nI_m1 (a := e) (by omega) q.symm)] at h1
      have hold : kp_c (C 4) (nI e) (12 + 12 * 0) = kr_c R e 0 := hold
      rw [d4]
      by_cases hea : e = a
      · rw [if_pos (by rw [hea])] at h1
        rw [if_pos ⟨rfl, hea⟩] at hcnt
        omega
      · rw [if_neg (nI_ne (by omega) (by omega) (fun q => hea q.symm))] at h1
        rw [if_neg (fun q => hea q.2)] at hcnt
        omega
    · rw [dn _ (by omega) (by omega), hold, ← hcnt, if_neg (fun q => hb0 q.1)]
      rfl
  · intro b hb' q hq hce
    refine ⟨?_, fun k hk => by rw [dn (5 + 3 * b) (by omega) (by omega)]⟩
    by_cases hb0 : b = 0
    · subst hb0
      have hce : C 4 q = nI e := hce
      have hqr : q ≠ r := fun z => by
        rw [z, g3, nI_eq (by omega) (by omega)] at hce
        exact hea hce.symm
      show D 4 q = nI e
      rw [d4, pk_un hqr]
      exact hce
    · rw [dn _ (by omega) (by omega)]
      exact hce
  · have s35 := sn 35 (by decide) (by decide) (by decide) (by decide)
    refine ⟨⟨by rw [dn (20 + 7 * a) (by omega) (by omega), s35]; exact h1.1, by rw [kr_b_eq s35]; exact h1.2⟩, by rw [dn (19 + 7 * a) (by omega) (by omega)]; exact h2, ⟨?_, ?_, ?_⟩, ⟨_, hB⟩, ?_⟩
    · rw [dn (21 + 7 * a) (by omega) (by omega), dn 7 (by omega) (by omega)]
      unfold kr_sz
      rw [s35]
      exact p1
    · rw [dn (21 + 7 * a) (by omega) (by omega)]
      unfold kr_sz
      rw [s35]
      exact p2
    · rw [dn (21 + 7 * a) (by omega) (by omega)]
      exact p3
    · intro f0 i0 r0 hf0 hi0 hr0 hr24
      unfold kr_sz at hi0
      rw [s35] at hi0
      have h24 := (hR.2.1 (6 * a + f0) (by omega)).2
      have hi24 : i0 < kr_sz R (6 * a + f0) := hi0
      rw [dn (21 + 7 * a) (by omega) (by omega)] at hr0
      rw [dn 5 (by omega) (by omega), dn 8 (by omega) (by omega)]
      obtain ⟨w1, w2⟩ := hwd f0 i0 r0 hf0 hi0 hr0 hr24
      refine ⟨fun y r1 hy hyp hyf hr1 => ?_, fun hno => ?_⟩
      · have hys : y ≠ s := fun q => by
          rw [q, dz, pk_un (by decide), pk_us] at hyp
          exact nI_m1 (by omega) hyp.symm
        rw [dzo y hys] at hyp hyf ⊢
        have hq : 6 * f0 + i0 / 4 ≠ 6 * f + p := fun q => hys (ka_uniq hL0 hs3 hy (by omega) hpt (by rw [hyp, q]))
        rw [t34, if_neg (by omega)]
        exact w1 y r1 hy hyp hyf hr1
      · by_cases hpart : 6 * f0 + i0 / 4 = 6 * f + p
        · have e1 : f0 = f := by omega
          subst e1
          have er : r0 = w := (nI_eq (by omega) (by omega)).mp (hr0.symm.trans (by rw [hpart]; exact hb))
          rw [t34, if_pos (by omega), er]
          congr 1
          omega
        · rw [t34, if_neg (by omega)]
          refine w2 (fun y hy => ?_)
          by_cases hys : y = s
          · rw [hys, hpt]
            exact nI_ne (by omega) (by omega) (fun q => hpart q.symm)
          · rw [← dzo y hys]
            exact hno y hy
