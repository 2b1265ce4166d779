/-! a part comes into an empty slot -/
set_option maxHeartbeats 1000000 in
theorem ka_in {N : Nat} {C D R S : kb_M} (h : ki_J N C R) (hN6 : N ≤ 600) {a : Nat} (ha : a < 2) {L : List Nat} (hL : ki_B C R a L) {s r f p w v : Nat} (hs : s < 3) (hsn : s ∉ L) (hn : kr_fr R a < 3) (hr : r < 12) (hfree : C 4 r = -1) (hf : f < 6) (hp : p < 6) (hval : 4 * p < kr_sz R (6 * a + f)) (hw : w < 24) (hb : C (21 + 7 * a) (6 * f + p) = nI w) (hno : ∀ j, j < kr_fr R a → R 36 (3 * a + j) ≠ nI (6 * f + p)) (hv : C (19 + 7 * a) 7 = nI v) (hvN : v ≤ N)
    (e4 : D 4 = upd (C 4) r (nI a)) (e5 : ∀ q, D 5 q = if q / 4 = r then C 8 (4 * w + q % 4) else C 5 q) (ez : D (23 + 7 * a + s) 0 = nI r ∧ D (23 + 7 * a + s) 1 = nI (6 * f + p) ∧ D (23 + 7 * a + s) 2 = nI (v + 1) ∧ D (23 + 7 * a + s) 3 = 0) (ec : D (19 + 7 * a) 7 = nI (v + 1)) (en : ∀ k, k ≠ 4 → k ≠ 5 → k ≠ 19 + 7 * a → k ≠ 23 + 7 * a + s → D k = C k)
    (sn : ∀ k, 34 ≤ k → k ≠ 36 → k ≠ 37 → k ≠ 38 → S k = R k) (s36 : S 36 = upd (R 36) (3 * a + kr_fr R a) (nI (6 * f + p))) (s37 : S 37 = upd (R 37) (3 * a + kr_fr R a) 0) (s38 : S 38 = upd (R 38) a (nI (kr_fr R a + 1))) : ki_J (N + 1) D S ∧ ki_B D S a (L ++ [s]) := by
  have hA := h.2.2.2.2.2 a ha
  have hR := h.1
  obtain ⟨h1, h2, ⟨p1, p2, p3⟩, -, hwd⟩ := hA
  obtain ⟨l1, l2, l3, l4, l5, l6⟩ := hL
  have s35 := sn 35 (by decide) (by decide) (by decide) (by decide)
  have s39 := sn 39 (by decide) (by decide) (by decide) (by decide)
  have s41 := sn 41 (by decide) (by decide) (by decide) (by decide)
  have s42 := sn 42 (by decide) (by decide) (by decide) (by decide)
  have s34 := sn 34 (by decide) (by decide) (by decide) (by decide)
  have hSf : kr_fr S a = kr_fr R a + 1 := by unfold kr_fr; rw [s38, pk_us, nI_clamp (by have : kr_fr R a < 3 := hn; omega)]
  have hS : kr_ok S := by
    obtain ⟨o1, o2, o3, o4, o5⟩ := hR
    refine ⟨?_, ?_, ?_, by rw [s41]; exact o4, by rw [s37]; exact kr_bool_up o5 (Or.inl rfl)⟩
    · unfold kr_bd; rw [s39]; exact o1
    · unfold kr_sz; rw [s35]; exact o2
    · unfold kr_fr; rw [s38]; exact kr_fr_up (by omega) o3
  have dsl : ∀ y, y < 3 → y ≠ s → D (23 + 7 * a + y) = C (23 + 7 * a + y) := fun y hy hys => en _ (by omega) (by omega) (by omega) (by omega)
  have keep : ∀ e, e < 4 → ki_keep C D e := by
    intro e he b hb' q hq hce
    by_cases hb0 : b = 0
    · subst hb0
      have hce : C 4 q = nI e := hce
      have hqr : q ≠ r := fun z => by rw [z, hfree] at hce; exact nI_m1 (by omega) hce.symm
      refine ⟨?_, fun k hk => ?_⟩
      · show D 4 q = nI e
        rw [e4, pk_un hqr]; exact hce
      · show D 5 (4 * q + k) = C 5 (4 * q + k)
        rw [e5, if_neg (by omega)]
    · rw [en (4 + 3 * b) (by omega) (by omega) (by omega) (by omega), en (5 + 3 * b) (by omega) (by omega) (by omega) (by omega)]
      exact ⟨hce, fun _ _ => rfl⟩
  have pl : ∀ i y, L[i]? = some y → i < kr_fr R a ∧ y < 3 ∧ y ≠ s ∧ S 36 (3 * a + i) = R 36 (3 * a + i) ∧ S 37 (3 * a + i) = R 37 (3 * a + i) := by
    intro i y hi
    have hil : i < kr_fr R a := by rw [← l1]; exact (List.getElem?_eq_some_iff.mp hi).1
    refine ⟨hil, l3 y (List.mem_of_getElem? hi), fun q => hsn (by rw [← q]; exact List.mem_of_getElem? hi), by rw [s36, pk_un (by omega)], by rw [s37, pk_un (by omega)]⟩
  have owned : ∀ (i y : Nat), L[i]? = some y → ∃ r1, r1 < 12 ∧ C (23 + 7 * a + y) 0 = nI r1 ∧ C 4 r1 = nI a ∧ r1 ≠ r := by
    intro i y hi
    obtain ⟨-, -, ⟨r1, m3, m4, m5⟩, -⟩ := l5 i y hi
    exact ⟨r1, m3, m4, m5, fun q => by rw [q, hfree] at m5; exact nI_m1 (by omega) m5.symm⟩
  have hB : ki_B D S a (L ++ [s]) := by
    refine ⟨by rw [List.length_append, l1, hSf]; rfl, ka_nd l2 hsn, fun y hy => ?_, fun y hy hn' => ?_, fun i y hi => ?_, fun i k y z hik hi hk => ?_⟩
    · rcases List.mem_append.mp hy with q | q
      · exact l3 y q
      · rw [List.mem_singleton.mp q]; exact hs
    · have hys : y ≠ s := fun q => hn' (List.mem_append.mpr (Or.inr (List.mem_singleton.mpr q)))
      rw [dsl y hy hys]
      exact l4 y hy (fun q => hn' (List.mem_append.mpr (Or.inl q)))
    · rcases ka_app hi with ⟨q1, q2⟩ | ⟨q1, q2⟩
      · obtain ⟨b1, b2, b3, b4, b5⟩ := pl i y q2
        obtain ⟨m1, m2, ⟨r1, m3, m4, m5⟩, ⟨f1, p1', m6, m7, m8, m9⟩, ⟨u, v', m10, m11, m12, m13⟩⟩ := l5 i y q2
        have evv : v' = v := (nI_eq (by omega) (by omega)).mp (m11.symm.trans hv)
        rw [dsl y b2 b3, b4, b5, ec]
        refine ⟨m1, m2, ⟨r1, m3, m4, (keep a (by omega) 0 (by decide) r1 m3 m5).1⟩, ⟨f1, p1', m6, m7, by unfold kr_sz; rw [s35]; exact m8, m9⟩, ⟨u, v + 1, m10, rfl, by omega, by omega⟩⟩
      · rw [l1] at q1
        rw [q2, q1, s36, pk_us, s37, pk_us, ec]
        refine ⟨ez.2.1, ez.2.2.2, ⟨r, hr, ez.1, by rw [e4]; exact pk_us⟩, ⟨f, p, hf, hp, by unfold kr_sz; rw [s35]; exact hval, rfl⟩, ⟨v + 1, v + 1, ez.2.2.1, rfl, Nat.le_refl _, by omega⟩⟩
    · rcases ka_app hi with ⟨q1, q2⟩ | ⟨q1, q2⟩
      · obtain ⟨b1, b2, b3, b4, b5⟩ := pl i y q2
        rcases ka_app hk with ⟨t1, t2⟩ | ⟨t1, t2⟩
        · obtain ⟨c1, c2, c3, c4, c5⟩ := pl k z t2
          rw [dsl y b2 b3, dsl z c2 c3, b4, c4]
          exact l6 i k y z hik q2 t2
        · obtain ⟨m1, m2, m3, m4, ⟨u, v', m10, m11, m12, m13⟩⟩ := l5 i y q2
          have evv : v' = v := (nI_eq (by omega) (by omega)).mp (m11.symm.trans hv)
          obtain ⟨r1, r2, r3, r4, r5⟩ := owned i y q2
          rw [l1] at t1
          rw [t2, t1, dsl y b2 b3, b4, s36, pk_us, ez.2.2.1, ez.1, m10, r3]
          exact ⟨nI_lt (by omega) (by omega), hno i b1, nI_ne (by omega) (by omega) r5⟩
      · rcases ka_app hk with ⟨t1, t2⟩ | ⟨t1, t2⟩ <;> omega
  refine ⟨?_, hB⟩
  refine kj_app (kj_N h) ha hS s39 s41 s42 (sn 43 (by decide) (by decide) (by decide) (by decide)) (sn 44 (by decide) (by decide) (by decide) (by decide)) (fun b hb' q hq => ?_) (fun b hb' e he => ?_) (fun k q1 q2 => en k (by omega) (by omega) (by omega) (by omega)) (fun o ho hoa => ⟨fun k q1 q2 => en k (by omega) (by omega) (by omega) (by omega), fun i _ => by rw [s34], fun f _ => by rw [s35], fun i hi => ⟨by rw [s36, pk_un (by omega)], by rw [s37, pk_un (by omega)]⟩, by rw [s38, pk_un hoa]⟩) (fun e he _ => keep e he) ?_
  · by_cases hb0 : b = 0
    · subst hb0
      show D 4 q = -1 ∨ ∃ e, e < 4 ∧ D 4 q = nI e
      rw [e4]
      unfold upd
      by_cases hqr : q = r
      · rw [if_pos hqr]; exact Or.inr ⟨a, by omega, rfl⟩
      · rw [if_neg hqr]; exact h.2.2.1 0 hb' q hq
    · rw [en _ (by omega) (by omega) (by omega) (by omega)]
      exact h.2.2.1 b hb' q hq
  · have hold := h.2.2.2.1 b hb' e he
    have hcnt : kr_c S e b = kr_c R e b + (if b = 0 ∧ e = a then 1 else 0) := by
      rcases kr_env2 he with he2 | ⟨d, hd, rfl⟩
      · unfold kr_c
        rw [if_pos he2, if_pos he2, kr_b_eq s35]
        by_cases hb0 : b = 0
        · rw [if_pos hb0, if_pos hb0]
          by_cases hea : e = a
          · rw [if_pos ⟨hb0, hea⟩, hea, hSf]
          · rw [if_neg (fun q => hea q.2)]
            unfold kr_fr
            rw [s38, pk_un hea]
            rfl
        · rw [if_neg hb0, if_neg hb0, if_neg (fun q => hb0 q.1)]
          rfl
      · rw [kr_c_g hd, kr_c_g hd, if_neg (by omega)]
        have q := kr_l_eq (R := R) (S := S) (g := d) (b := nI b) (kr_bd R d) (fun u hu => ⟨by rw [s41], by rw [s42]⟩)
        unfold kr_bd at q ⊢
        rw [s39, q]
        rfl
    by_cases hb0 : b = 0
    · subst hb0
      show kp_c (D 4) (nI e) (12 + 12 * 0) = kr_c S e 0
      have h1 := kp_c_upd (f := C 4) (r := r) (x := nI a) (e := nI e) (12 + 12 * 0) (by omega)
      rw [hfree, if_neg (show ¬ (-1 : Int32) = nI e from fun q => nI_m1 (a := e) (by omega) q.symm)] at h1
      have hold : kp_c (C 4) (nI e) (12 + 12 * 0) = kr_c R e 0 := hold
      rw [e4, hcnt]
      by_cases hea : e = a
      · rw [if_pos (by rw [hea])] at h1
        rw [if_pos ⟨rfl, hea⟩]
        omega
      · rw [if_neg (nI_ne (by omega) (by omega) (fun q => hea q.symm))] at h1
        rw [if_neg (fun q => hea q.2)]
        omega
    · rw [en _ (by omega) (by omega) (by omega) (by omega), hold, hcnt, if_neg (fun q => hb0 q.1)]
      rfl
  · refine ⟨⟨by rw [en (20 + 7 * a) (by omega) (by omega) (by omega) (by omega), s35]; exact h1.1, by rw [kr_b_eq s35]; exact h1.2⟩, ⟨v + 1, ec, by omega⟩, ⟨?_, ?_, ?_⟩, ⟨_, hB⟩, ?_⟩
    · rw [en (21 + 7 * a) (by omega) (by omega) (by omega) (by omega), en 7 (by omega) (by omega) (by omega) (by omega)]
      unfold kr_sz
      rw [s35]
      exact p1
    · rw [en (21 + 7 * a) (by omega) (by omega) (by omega) (by omega)]
      unfold kr_sz
      rw [s35]
      exact p2
    · rw [en (21 + 7 * a) (by omega) (by omega) (by omega) (by omega)]
      exact p3
    · intro f0 i0 r0 hf0 hi0 hr0 hr24
      unfold kr_sz at hi0
      rw [s35] at hi0
      have h24 := (hR.2.1 (6 * a + f0) (by omega)).2
      have hi24 : i0 < kr_sz R (6 * a + f0) := hi0
      rw [en (21 + 7 * a) (by omega) (by omega) (by omega) (by omega)] at hr0
      rw [s34, en 8 (by omega) (by omega) (by omega) (by omega)]
      obtain ⟨w1, w2⟩ := hwd f0 i0 r0 hf0 hi0 hr0 hr24
      -- no slot of C holds the part that comes
      have nocache : ∀ y, y < 3 → C (23 + 7 * a + y) 1 ≠ nI (6 * f + p) := by
        intro y hy q
        by_cases hy' : y ∈ L
        · obtain ⟨i, hi⟩ := List.getElem?_of_mem hy'
          exact hno i (pl i y hi).1 ((l5 i y hi).1.symm.trans q)
        · rw [(l4 y hy hy').2.1] at q
          exact nI_m1 (by omega) q.symm
      by_cases hpart : 6 * f0 + i0 / 4 = 6 * f + p
      · have er : r0 = w := (nI_eq (by omega) (by omega)).mp (hr0.symm.trans (by rw [hpart]; exact hb))
        have hw0 := w2 (fun y hy => by rw [hpart]; exact nocache y hy)
        refine ⟨fun y r1 hy hyp hyf hr1 => ?_, fun _ => hw0⟩
        have hys : y = s := by
          by_cases hys : y = s
          · exact hys
          · rw [dsl y hy hys, hpart] at hyp
            exact absurd hyp (nocache y hy)
        subst hys
        have e1 : r1 = r := (nI_eq (by omega) (by omega)).mp (hyf.symm.trans ez.1)
        refine ⟨?_, fun _ => hw0⟩
        rw [e1, e5, if_pos (by omega), show (4 * r + i0 % 4) % 4 = i0 % 4 by omega, ← er]
        exact hw0
      · refine ⟨fun y r1 hy hyp hyf hr1 => ?_, fun hno' => ?_⟩
        · have hys : y ≠ s := fun q => hpart (by
            rw [q, ez.2.1, nI_eq (by omega) (by omega)] at hyp
            exact hyp.symm)
          rw [dsl y hy hys] at hyp hyf ⊢
          have hmem : y ∈ L := by
            by_cases hm : y ∈ L
            · exact hm
            · exfalso
              rw [(l4 y hy hm).2.1] at hyp
              exact nI_m1 (by omega) hyp.symm
          obtain ⟨i, hi⟩ := List.getElem?_of_mem hmem
          obtain ⟨r2, q1, q2, q3, q4⟩ := owned i y hi
          have e1 : r1 = r2 := (nI_eq (by omega) (by omega)).mp (hyf.symm.trans q2)
          rw [e5, if_neg (by omega)]
          exact w1 y r1 hy hyp hyf hr1
        · refine w2 (fun y hy => ?_)
          by_cases hys : y = s
          · rw [hys, (l4 s hs hsn).2.1]
            exact fun q => nI_m1 (by omega) q.symm
          · rw [← dsl y hy hys]
            exact hno' y hy
