/-! append to a cached part -/
theorem kd_ro (R : kb_M) (g : Nat → Int32) {k : Nat} (f : Nat → Int32) (h : k ≠ 35) : kb_ro (kb_ro R 35 g) k f = kb_ro (kb_ro R k f) 35 g := by
  funext q
  unfold kb_ro
  by_cases h1 : q = k
  · rw [if_pos h1, if_neg (by omega), if_pos h1]
  · rw [if_neg h1]
    by_cases h2 : q = 35
    · rw [if_pos h2, if_pos h2]
    · rw [if_neg h2, if_neg h2, if_neg h1]
theorem kd_up (R : kb_M) (g : Nat → Int32) {k : Nat} (i : Nat) (x : Int32) (h : k ≠ 35) : kb_up (kb_ro R 35 g) k i x = kb_ro (kb_up R k i x) 35 g := by
  unfold kb_up
  rw [kb_ro_ne _ _ h, kd_ro _ _ _ h]
theorem kd_rm (R : kb_M) (g : Nat → Int32) (a j : Nat) : kr_rm (kb_ro R 35 g) a j = kb_ro (kr_rm R a j) 35 g := by
  unfold kr_rm kr_ri1
  rw [kb_ro_ne (j := 36) _ _ (by decide), kb_ro_ne (j := 37) _ _ (by decide), kd_ro _ _ _ (by decide), kd_ro _ _ _ (by decide), kd_up _ _ _ _ (by decide)]
  rfl
theorem kd_ad (R : kb_M) (g : Nat → Int32) (a : Nat) (p d : Int32) : kr_ad (kb_ro R 35 g) a p d = kb_ro (kr_ad R a p d) 35 g := by
  unfold kr_ad
  rw [kb_ro_ne (j := 38) _ _ (by decide), kd_up _ _ _ _ (by decide), kd_up _ _ _ _ (by decide), kd_up _ _ _ _ (by decide)]
  rfl
theorem kd_op {R : kb_M} (g : Nat → Int32) {a p j : Nat} (h : kr_fi R a (nI p) (kr_fr R a) = some j) : kr_op (kb_ro R 35 g) a p = kb_ro (kr_op R a p) 35 g := by
  unfold kr_op
  rw [kr_fi_eq (R := R) (S := kb_ro R 35 g) rfl, show kr_fr (kb_ro R 35 g) a = kr_fr R a from rfl, h]
  show kr_ad (kr_rm (kb_ro R 35 g) a j) a (nI p) (R 37 (3 * a + j)) = kb_ro (kr_ad (kr_rm R a j) a (nI p) (R 37 (3 * a + j))) 35 g
  rw [kd_rm, kd_ad]
theorem ki_B_fr {C D R : kb_M} {a : Nat} {L : List Nat} (h : ki_B C R a L) (d4 : D 4 = C 4) (d19 : D (19 + 7 * a) = C (19 + 7 * a)) (dz : ∀ s, s < 3 → D (23 + 7 * a + s) = C (23 + 7 * a + s)) : ki_B D R a L := by
  obtain ⟨l1, l2, l3, l4, l5, l6⟩ := h
  refine ⟨l1, l2, l3, fun y hy hn => by rw [dz y hy]; exact l4 y hy hn, fun i y hi => ?_, fun i k y z hik hi hk => ?_⟩
  · rw [dz y (l3 y (List.mem_of_getElem? hi)), d4, d19]
    exact l5 i y hi
  · rw [dz y (l3 y (List.mem_of_getElem? hi)), dz z (l3 z (List.mem_of_getElem? hk))]
    exact l6 i k y z hik hi hk
/-- one slot a part -/
theorem ka_uniq {C R : kb_M} {a : Nat} {L : List Nat} (hL : ki_B C R a L) {s y q : Nat} (hs : s < 3) (hy : y < 3) (hq : q < 36) (h1 : C (23 + 7 * a + s) 1 = nI q) (h2 : C (23 + 7 * a + y) 1 = nI q) : y = s := by
  obtain ⟨l1, l2, l3, l4, l5, l6⟩ := hL
  have mem : ∀ t, t < 3 → C (23 + 7 * a + t) 1 = nI q → t ∈ L := by
    intro t ht hp
    by_cases hm : t ∈ L
    · exact hm
    · rw [(l4 t ht hm).2.1] at hp
      exact absurd hp.symm (nI_m1 (by omega))
  obtain ⟨i, hi⟩ := List.getElem?_of_mem (mem s hs h1)
  obtain ⟨k, hk⟩ := List.getElem?_of_mem (mem y hy h2)
  have e : R 36 (3 * a + i) = R 36 (3 * a + k) := by rw [← (l5 i s hi).1, ← (l5 k y hk).1, h1, h2]
  by_cases hik : i = k
  · rw [hik, hk] at hi
    exact Option.some.inj hi
  · exfalso
    by_cases hlt : i < k
    · exact (l6 i k s y hlt hi hk).2.1 e
    · exact (l6 k i y s (by omega) hk hi).2.1 e.symm
theorem kb_up_self (M : kb_M) (k i : Nat) : kb_up M k i (M k i) = M := by
  funext q j
  by_cases hq : q = k
  · rw [hq, kb_up_at]
    by_cases hj : j = i
    · rw [hj, pk_us]
    · rw [pk_un hj]
  · rw [kb_up_ne _ _ _ hq]
theorem kb_up_twice (M : kb_M) (k i : Nat) (x y : Int32) : kb_up (kb_up M k i x) k i y = kb_up M k i y := by
  funext q j
  by_cases hq : q = k
  · rw [hq, kb_up_at, kb_up_at, kb_up_at]
    by_cases hj : j = i
    · rw [hj, pk_us, pk_us]
    · rw [pk_un hj, pk_un hj, pk_un hj]
  · rw [kb_up_ne _ _ _ hq, kb_up_ne _ _ _ hq, kb_up_ne _ _ _ hq]
theorem kb_up_comm (M : kb_M) {k l : Nat} (i j : Nat) (x y : Int32) (h : k ≠ l) : kb_up (kb_up M k i x) l j y = kb_up (kb_up M l j y) k i x := by
  funext q
  by_cases hq : q = k
  · rw [hq, kb_up_ne _ _ _ h, kb_up_at, kb_up_at, kb_up_ne _ _ _ h]
  · rw [kb_up_ne (j := q) (k := k) _ _ _ hq]
    by_cases hl : q = l
    · rw [hl, kb_up_at, kb_up_at, kb_up_ne _ _ _ (fun e => h e.symm)]
    · rw [kb_up_ne _ _ _ hl, kb_up_ne _ _ _ hl, kb_up_ne _ _ _ hq]
/-- the virtual way: the part is used, made dirty, the file grows, the word is written -/
theorem kz_dirty {N B : Nat} {T S : kb_M} (h : ki_Z N B T S) {a : Nat} (ha : a < 2) {L : List Nat} (hL : ki_B T S a L) {j s r f n : Nat} (w : Int32) (hj : L[j]? = some s) (hr : r < 12) (hfr : T (23 + 7 * a + s) 0 = nI r) (hf : f < 6) (hn : kr_sz S (6 * a + f) = n) (hn24 : n < 24) (h4 : n % 4 ≠ 0) (hpt : T (23 + 7 * a + s) 1 = nI (6 * f + n / 4)) : ki_Z N B (kb_up (kb_up (kb_up T (20 + 7 * a) f (nI (n + 1))) (23 + 7 * a + s) 3 1) 5 (4 * r + n % 4) w) (kb_up (kb_up (kb_up S 35 (6 * a + f) (nI (n + 1))) 34 (144 * a + 24 * f + n) w) 37 (3 * a + j) 1) := by
  have hs3 := hL.2.2.1 s (List.mem_of_getElem? hj)
  have hA := h.1.2.2.2.2.2 a ha
  have hpt1 : T (23 + 7 * a + s) 1 = nI (6 * f + (n - 1) / 4) := by rw [hpt]; congr 1; omega
  obtain ⟨b, b1, b2, b3⟩ := hA.2.2.1.1 f ((n - 1) / 4) hf (by omega) (by omega)
  have own := ((hA.2.2.2.2 f (n - 1) b hf (by omega) b2 b1).1 s r hs3 hpt1 hfr hr).1
  -- dirty
  have Z1 := kz_write h ha hL (T 5 (4 * r + (n - 1) % 4)) hj hr hfr hf (i := n - 1) (by omega) hpt1
  have B1 := (ka_write h.1 ha hL (T 5 (4 * r + (n - 1) % 4)) hj hr hfr hf (i := n - 1) (by omega) hpt1).2
  have e1 : kb_up (kb_up T (23 + 7 * a + s) 3 1) 5 (4 * r + (n - 1) % 4) (T 5 (4 * r + (n - 1) % 4)) = kb_up T (23 + 7 * a + s) 3 1 := by
    have : T 5 (4 * r + (n - 1) % 4) = (kb_up T (23 + 7 * a + s) 3 1) 5 (4 * r + (n - 1) % 4) := by rw [kb_up_ne _ _ _ (by omega)]
    rw [this, kb_up_self]
  have e2 : kb_up S 34 (144 * a + 24 * f + (n - 1)) (T 5 (4 * r + (n - 1) % 4)) = S := by rw [own, kb_up_self]
  rw [e1, e2] at Z1 B1
  -- longer
  have T1z : (kb_up T (23 + 7 * a + s) 3 1) (23 + 7 * a + s) = upd (T (23 + 7 * a + s)) 3 1 := kb_up_at _ _ _ _
  have p1 : (kb_up T (23 + 7 * a + s) 3 1) (23 + 7 * a + s) 1 = nI (6 * f + n / 4) := by rw [T1z, pk_un (by decide)]; exact hpt
  have f1 : (kb_up T (23 + 7 * a + s) 3 1) (23 + 7 * a + s) 0 = nI r := by rw [T1z, pk_un (by decide)]; exact hfr
  have c1 : (kb_up T (23 + 7 * a + s) 3 1) (23 + 7 * a + s) 3 = 1 := by rw [T1z, pk_us]
  have hsz : kr_sz (kb_up S 37 (3 * a + j) 1) (6 * a + f) = n := by unfold kr_sz; rw [kb_up_ne _ _ _ (by decide)]; exact hn
  generalize hT : kb_up T (23 + 7 * a + s) 3 1 = T1 at *
  obtain ⟨Z2, B2⟩ := kz_len (x := T1 5 (4 * r + n % 4)) Z1 ha B1 hf hsz hn24 h4 (fun r1 hr1 hb => by
    refine ⟨fun y r0 hy hyp hyf hr0 => ?_, fun hno => absurd p1 (hno s hs3)⟩
    have ey := ka_uniq B1 hs3 hy (by omega) p1 hyp
    subst ey
    have er : r0 = r := (nI_eq (by omega) (by omega)).mp (hyf.symm.trans f1)
    subst er
    refine ⟨rfl, fun hc => ?_⟩
    rw [c1] at hc
    exact absurd hc (by decide))
  -- the word
  have Z3 := kz_write Z2 ha B2 w hj hr (by rw [kb_up_ne _ _ _ (by omega)]; exact f1) hf (i := n) (by unfold kr_sz; rw [kb_up_ne _ _ _ (by decide), kb_up_at, pk_us, nI_clamp (by omega)]; omega) (by rw [kb_up_ne _ _ _ (by omega)]; exact p1)
  have m : kb_up (kb_up T1 (20 + 7 * a) f (nI (n + 1))) (23 + 7 * a + s) 3 1 = kb_up (kb_up T (20 + 7 * a) f (nI (n + 1))) (23 + 7 * a + s) 3 1 := by
    rw [← hT, kb_up_comm (k := 23 + 7 * a + s) (l := 20 + 7 * a) _ _ _ _ _ (by omega), kb_up_twice]
  have m2 : kb_up (kb_up (kb_up (kb_up (kb_up S 37 (3 * a + j) 1) 35 (6 * a + f) (nI (n + 1))) 34 (144 * a + 24 * f + n) (T1 5 (4 * r + n % 4))) 34 (144 * a + 24 * f + n) w) 37 (3 * a + j) 1 = kb_up (kb_up (kb_up S 35 (6 * a + f) (nI (n + 1))) 34 (144 * a + 24 * f + n) w) 37 (3 * a + j) 1 := by
    rw [kb_up_twice, kb_up_comm S (k := 37) (l := 35) _ _ _ _ (by decide), kb_up_comm (kb_up S 35 (6 * a + f) (nI (n + 1))) (k := 37) (l := 34) _ _ _ _ (by decide), kb_up_twice]
  rw [m, m2] at Z3
  exact Z3
