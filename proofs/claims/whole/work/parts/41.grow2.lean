/-! a file grows: within its last block, or with a new one -/
theorem kr_c_set {R S : kb_M} {a f m : Nat} (ha : a < 2) (hf : f < 6) (s35 : S 35 = upd (R 35) (6 * a + f) (nI m)) (hm : m < 1000) (sn : ∀ k, k ≠ 34 → k ≠ 35 → S k = R k) : (kr_c S a 1 + (kr_sz R (6 * a + f) + 3) / 4 = kr_c R a 1 + (m + 3) / 4) ∧ (∀ e b, e < 4 → b < 2 → ¬ (e = a ∧ b = 1) → kr_c S e b = kr_c R e b) := by
  refine ⟨?_, fun e b he hb hne => ?_⟩
  · unfold kr_c
    rw [if_pos ha, if_pos ha, if_neg (by decide), if_neg (by decide)]
    exact (kr_b_set s35 hm 6).2 hf
  · by_cases he2 : e < 2
    · unfold kr_c
      rw [if_pos he2, if_pos he2]
      by_cases hb0 : b = 0
      · rw [if_pos hb0, if_pos hb0]
        unfold kr_fr
        rw [sn 38 (by decide) (by decide)]
      · rw [if_neg hb0, if_neg hb0]
        exact kr_b_sa (fun f0 hf0 => by rw [s35, pk_un (by omega)]) 6 (Nat.le_refl _)
    · have : e = 2 + (e - 2) := by omega
      rw [this, kr_c_g (by omega), kr_c_g (by omega)]
      have q := kr_l_eq (R := R) (S := S) (g := e - 2) (b := nI b) (kr_bd R (e - 2)) (fun u hu => ⟨by rw [sn 41 (by decide) (by decide)], by rw [sn 42 (by decide) (by decide)]⟩)
      unfold kr_bd at q ⊢
      rw [sn 39 (by decide) (by decide), q]
theorem kz_len {N B : Nat} {C R : kb_M} (h : ki_Z N B C R) {a : Nat} (ha : a < 2) {L : List Nat} (hL : ki_B C R a L) {f n : Nat} {x : Int32} (hf : f < 6) (hn : kr_sz R (6 * a + f) = n) (hn24 : n < 24) (h4 : n % 4 ≠ 0)
    (hW : ∀ r, r < 24 → C (21 + 7 * a) (6 * f + n / 4) = nI r → (∀ s r0, s < 3 → C (23 + 7 * a + s) 1 = nI (6 * f + n / 4) → C (23 + 7 * a + s) 0 = nI r0 → r0 < 12 → C 5 (4 * r0 + n % 4) = x ∧ (C (23 + 7 * a + s) 3 = 0 → C 8 (4 * r + n % 4) = x)) ∧ ((∀ s, s < 3 → C (23 + 7 * a + s) 1 ≠ nI (6 * f + n / 4)) → C 8 (4 * r + n % 4) = x)) : ki_Z N B (kb_up C (20 + 7 * a) f (nI (n + 1))) (kb_up (kb_up R 35 (6 * a + f) (nI (n + 1))) 34 (144 * a + 24 * f + n) x) ∧ ki_B (kb_up C (20 + 7 * a) f (nI (n + 1))) (kb_up (kb_up R 35 (6 * a + f) (nI (n + 1))) 34 (144 * a + 24 * f + n) x) a L := by
  have dn : ∀ k, k ≠ 20 + 7 * a → (kb_up C (20 + 7 * a) f (nI (n + 1))) k = C k := fun k hk => kb_up_ne _ _ _ hk
  have d20 : (kb_up C (20 + 7 * a) f (nI (n + 1))) (20 + 7 * a) = upd (C (20 + 7 * a)) f (nI (n + 1)) := kb_up_at _ _ _ _
  have sn : ∀ k, k ≠ 34 → k ≠ 35 → (kb_up (kb_up R 35 (6 * a + f) (nI (n + 1))) 34 (144 * a + 24 * f + n) x) k = R k := fun k k1 k2 => by rw [kb_up_ne _ _ _ k1, kb_up_ne _ _ _ k2]
  have s35 : (kb_up (kb_up R 35 (6 * a + f) (nI (n + 1))) 34 (144 * a + 24 * f + n) x) 35 = upd (R 35) (6 * a + f) (nI (n + 1)) := by rw [kb_up_ne _ _ _ (by decide), kb_up_at]
  have s34 : (kb_up (kb_up R 35 (6 * a + f) (nI (n + 1))) 34 (144 * a + 24 * f + n) x) 34 = upd (R 34) (144 * a + 24 * f + n) x := by rw [kb_up_at, kb_up_ne _ _ _ (by decide)]
  generalize kb_up C (20 + 7 * a) f (nI (n + 1)) = D at *
  generalize kb_up (kb_up R 35 (6 * a + f) (nI (n + 1))) 34 (144 * a + 24 * f + n) x = S at *
  have hA := h.1.2.2.2.2.2 a ha
  obtain ⟨c1, c2⟩ := kr_c_set ha hf s35 (by omega) sn
  rw [hn] at c1
  have c1 : kr_c S a 1 = kr_c R a 1 := by omega
  have szf : kr_sz S (6 * a + f) = n + 1 := by unfold kr_sz; rw [s35, pk_us, nI_clamp (by omega)]
  have szo : ∀ j, j ≠ 6 * a + f → kr_sz S j = kr_sz R j := fun j hj => by unfold kr_sz; rw [s35, pk_un hj]
  have val : ∀ f0 p, f0 < 6 → (4 * p < kr_sz S (6 * a + f0) ↔ 4 * p < kr_sz R (6 * a + f0)) := by
    intro f0 p hf0
    by_cases hff : f0 = f
    · rw [hff, szf, hn]; omega
    · rw [szo _ (by omega)]
  obtain ⟨J, hB⟩ := ka_grow h.1 ha hL hf hn hn24 d20 s35 s34 sn (fun b hb r hr => by rw [dn _ (by omega)]; exact h.1.2.2.1 b hb r hr)
    (fun b hb e he => by
      rw [dn _ (by omega), h.1.2.2.2.1 b hb e he]
      by_cases hea : e = a ∧ b = 1
      · rw [hea.1, hea.2, c1]
      · rw [c2 e b he hb hea])
    (fun k _ k2 _ => dn k k2) (fun e _ => kk_rows e (fun b hb => ⟨dn _ (by omega), dn _ (by omega)⟩)) (fun q _ => by rw [dn _ (by omega)])
    (by
      have e1 : kr_c S a 1 = kr_b S a 6 := by unfold kr_c; rw [if_pos ha, if_neg (by decide)]
      have e2 : kr_c R a 1 = kr_b R a 6 := by unfold kr_c; rw [if_pos ha, if_neg (by decide)]
      have := hA.1.2
      omega)
    ⟨fun f0 p hf0 hp hlt => by rw [dn _ (by omega), dn _ (by omega)]; exact hA.2.2.1.1 f0 p hf0 hp ((val f0 p hf0).mp hlt), fun f0 p hf0 hp hlt => by rw [dn _ (by omega)]; exact hA.2.2.1.2.1 f0 p hf0 hp (fun q => hlt ((val f0 p hf0).mpr q)), by rw [dn _ (by omega)]; exact hA.2.2.1.2.2⟩
    (by rw [dn _ (by omega), dn 8 (by omega)]; exact hW)
  refine ⟨?_, hB⟩
  obtain ⟨x0, x1⟩ := h.2.2.2.2
  have e19 := dn 19 (by omega)
  have e26 := dn 26 (by omega)
  have s33 := sn 33 (by decide) (by decide)
  exact kz_cnt h J (dn 1 (by omega)) (dn 3 (by omega)) (dn 6 (by omega)) (fun k q1 q2 => dn k (by omega)) (by rw [e19]) (by rw [e26]) (by rw [e19, e26, s33]; exact x0) (by rw [e19, e26, s33]; exact x1) (by rw [s33]) (sn 39 (by decide) (by decide)) (sn 40 (by decide) (by decide)) (sn 42 (by decide) (by decide)) (sn 43 (by decide) (by decide))
/-- a new block for the next part -/
def ka_bk (C : kb_M) (a f n r : Nat) : kb_M := kb_up (kb_up (kx_bn C 1 r (nI a)) (21 + 7 * a) (6 * f + n / 4) (nI r)) (20 + 7 * a) f (nI (n + 1))
theorem kz_blk {N B : Nat} {C R : kb_M} (h : ki_Z N B C R) {a : Nat} (ha : a < 2) {f n r : Nat} (hf : f < 6) (hn : kr_sz R (6 * a + f) = n) (hn24 : n < 24) (h4 : n % 4 = 0) (hb6 : kr_b R a 6 < 6) (hr : r < 24) (hfree : C 7 r = -1) : ki_Z N B (ka_bk C a f n r) (kb_up (kb_up R 35 (6 * a + f) (nI (n + 1))) 34 (144 * a + 24 * f + n) 0) := by
  have hA := h.1.2.2.2.2.2 a ha
  obtain ⟨L, hL⟩ := hA.2.2.2.1
  have d20 : (ka_bk C a f n r) (20 + 7 * a) = upd (C (20 + 7 * a)) f (nI (n + 1)) := by unfold ka_bk kx_bn; rw [kb_up_at, kb_up_ne _ _ _ (by omega), kb_ro_ne _ _ (by omega), kb_up_ne _ _ _ (by omega)]
  have d21 : (ka_bk C a f n r) (21 + 7 * a) = upd (C (21 + 7 * a)) (6 * f + n / 4) (nI r) := by unfold ka_bk kx_bn; rw [kb_up_ne _ _ _ (by omega), kb_up_at, kb_ro_ne _ _ (by omega), kb_up_ne _ _ _ (by omega)]
  have d7 : (ka_bk C a f n r) 7 = upd (C 7) r (nI a) := by unfold ka_bk kx_bn; rw [kb_up_ne _ _ _ (by omega), kb_up_ne _ _ _ (by omega), kb_ro_ne _ _ (by omega), kb_up_at]
  have d8 : (ka_bk C a f n r) 8 = fun j => if j / 4 = r then 0 else C 8 j := by unfold ka_bk kx_bn; rw [kb_up_ne _ _ _ (by omega), kb_up_ne _ _ _ (by omega), kb_ro_at]
  have dn : ∀ k, k ≠ 7 → k ≠ 8 → k ≠ 20 + 7 * a → k ≠ 21 + 7 * a → (ka_bk C a f n r) k = C k := fun k k1 k2 k3 k4 => by unfold ka_bk kx_bn; rw [kb_up_ne _ _ _ k3, kb_up_ne _ _ _ k4, kb_ro_ne _ _ (by omega), kb_up_ne _ _ _ (by omega)]
  have sn : ∀ k, k ≠ 34 → k ≠ 35 → (kb_up (kb_up R 35 (6 * a + f) (nI (n + 1))) 34 (144 * a + 24 * f + n) 0) k = R k := fun k k1 k2 => by rw [kb_up_ne _ _ _ k1, kb_up_ne _ _ _ k2]
  have s35 : (kb_up (kb_up R 35 (6 * a + f) (nI (n + 1))) 34 (144 * a + 24 * f + n) 0) 35 = upd (R 35) (6 * a + f) (nI (n + 1)) := by rw [kb_up_ne _ _ _ (by decide), kb_up_at]
  have s34 : (kb_up (kb_up R 35 (6 * a + f) (nI (n + 1))) 34 (144 * a + 24 * f + n) 0) 34 = upd (R 34) (144 * a + 24 * f + n) 0 := by rw [kb_up_at, kb_up_ne _ _ _ (by decide)]
  generalize ka_bk C a f n r = D at *
  generalize kb_up (kb_up R 35 (6 * a + f) (nI (n + 1))) 34 (144 * a + 24 * f + n) 0 = S at *
  obtain ⟨c1, c2⟩ := kr_c_set ha hf s35 (by omega) sn
  rw [hn] at c1
  have c1 : kr_c S a 1 = kr_c R a 1 + 1 := by omega
  have szf : kr_sz S (6 * a + f) = n + 1 := by unfold kr_sz; rw [s35, pk_us, nI_clamp (by omega)]
  have szo : ∀ j, j ≠ 6 * a + f → kr_sz S j = kr_sz R j := fun j hj => by unfold kr_sz; rw [s35, pk_un hj]
  obtain ⟨p1, p2, p3⟩ := hA.2.2.1
  have val : ∀ f0 p, f0 < 6 → 6 * f0 + p ≠ 6 * f + n / 4 → p < 6 → (4 * p < kr_sz S (6 * a + f0) ↔ 4 * p < kr_sz R (6 * a + f0)) := by
    intro f0 p hf0 hne hp
    by_cases hff : f0 = f
    · subst hff
      rw [szf, hn]
      omega
    · rw [szo _ (by omega)]
  have key : ∀ b, b < 2 → ∀ q, q < 12 + 12 * b → ¬ (b = 1 ∧ q = r) → D (4 + 3 * b) q = C (4 + 3 * b) q ∧ ∀ k, k < 4 → D (5 + 3 * b) (4 * q + k) = C (5 + 3 * b) (4 * q + k) := by
    intro b hb q hq hne
    by_cases hb1 : b = 1
    · subst hb1
      have hqr : q ≠ r := fun e => hne ⟨rfl, e⟩
      show D 7 q = C 7 q ∧ ∀ k, k < 4 → D 8 (4 * q + k) = C 8 (4 * q + k)
      rw [d7, d8, pk_un hqr]
      exact ⟨rfl, fun k hk => if_neg (by omega)⟩
    · rw [dn (4 + 3 * b) (by omega) (by omega) (by omega) (by omega), dn (5 + 3 * b) (by omega) (by omega) (by omega) (by omega)]
      exact ⟨rfl, fun _ _ => rfl⟩
  have nocache : ∀ s, s < 3 → C (23 + 7 * a + s) 1 ≠ nI (6 * f + n / 4) := by
    intro s hs hp
    by_cases hm : s ∈ L
    · obtain ⟨j, hj⟩ := List.getElem?_of_mem hm
      obtain ⟨m1, -, -, ⟨f1, q1, f2, f3, f4, f5⟩, -⟩ := hL.2.2.2.2.1 j s hj
      have e : 6 * f1 + q1 = 6 * f + n / 4 := (nI_eq (by omega) (by omega)).mp ((m1.trans f5).symm.trans hp)
      have e1 : f1 = f := by omega
      subst e1
      omega
    · rw [(hL.2.2.2.1 s hs hm).2.1] at hp
      exact nI_m1 (a := 6 * f + n / 4) (by omega) hp.symm
  obtain ⟨J, hB⟩ := ka_grow h.1 ha hL hf hn hn24 d20 s35 s34 sn
    (fun b hb q hq => by
      by_cases hbr : b = 1 ∧ q = r
      · obtain ⟨rfl, rfl⟩ := hbr
        refine Or.inr ⟨a, by omega, ?_⟩
        show D 7 q = nI a
        rw [d7, pk_us]
      · rw [(key b hb q hq hbr).1]
        exact h.1.2.2.1 b hb q hq)
    (fun b hb e he => by
      by_cases hb1 : b = 1
      · subst hb1
        have h0 := h.1.2.2.2.1 1 (by decide) e he
        show kp_c (D 7) (nI e) 24 = kr_c S e 1
        have h0 : kp_c (C 7) (nI e) 24 = kr_c R e 1 := h0
        have u := kp_c_upd (f := C 7) (r := r) (x := nI a) (e := nI e) 24 hr
        rw [← d7, hfree, if_neg (fun q => nI_m1 (a := e) (by omega) q.symm)] at u
        by_cases hea : e = a
        · subst hea
          rw [if_pos rfl] at u
          omega
        · rw [if_neg (fun q => hea ((nI_eq (by omega) (by omega)).mp q).symm)] at u
          rw [c2 e 1 he (by decide) (fun q => hea q.1)]
          omega
      · rw [dn _ (by omega) (by omega) (by omega) (by omega), h.1.2.2.2.1 b hb e he, c2 e b he hb (fun q => hb1 q.2)])
    (fun k k1 k2 k3 => dn k (by omega) (by omega) k2 k3)
    (fun e he b hb q hq hc => by
      have hne : ¬ (b = 1 ∧ q = r) := by
        rintro ⟨rfl, rfl⟩
        have hc : C 7 q = nI e := hc
        rw [hfree] at hc
        exact nI_m1 (a := e) (by omega) hc.symm
      obtain ⟨y1, y2⟩ := key b hb q hq hne
      exact ⟨by rw [y1]; exact hc, y2⟩)
    (fun q hq => by
      rw [d21, pk_un (by omega)])
    (by
      have e1 : kr_c S a 1 = kr_b S a 6 := by unfold kr_c; rw [if_pos ha, if_neg (by decide)]
      have e2 : kr_c R a 1 = kr_b R a 6 := by unfold kr_c; rw [if_pos ha, if_neg (by decide)]
      omega)
    ⟨fun f0 p hf0 hp hlt => by
      by_cases hq : 6 * f0 + p = 6 * f + n / 4
      · exact ⟨r, hr, by rw [d21, hq, pk_us], by rw [d7, pk_us]⟩
      · obtain ⟨r', t1, t2, t3⟩ := p1 f0 p hf0 hp ((val f0 p hf0 hq hp).mp hlt)
        have hrr : r' ≠ r := fun e => by
          rw [e, hfree] at t3
          exact nI_m1 (a := a) (by omega) t3.symm
        exact ⟨r', t1, by rw [d21, pk_un hq]; exact t2, by rw [d7, pk_un hrr]; exact t3⟩,
    fun f0 p hf0 hp hlt => by
      by_cases hq : 6 * f0 + p = 6 * f + n / 4
      · exfalso
        have e1 : f0 = f := by omega
        subst e1
        rw [szf] at hlt
        omega
      · rw [d21, pk_un hq]
        exact p2 f0 p hf0 hp (fun q => hlt ((val f0 p hf0 hq hp).mpr q)),
    by
      have un : ∀ j, j < 36 → j ≠ 6 * f + n / 4 → C (21 + 7 * a) j ≠ nI r := by
        intro j hj hjq hc
        by_cases hv : 4 * (j % 6) < kr_sz R (6 * a + j / 6)
        · obtain ⟨r', t1, t2, t3⟩ := p1 (j / 6) (j % 6) (by omega) (by omega) hv
          rw [show 6 * (j / 6) + j % 6 = j by omega, hc] at t2
          have e : r = r' := (nI_eq (by omega) (by omega)).mp t2
          rw [← e, hfree] at t3
          exact nI_m1 (a := a) (by omega) t3.symm
        · have := p2 (j / 6) (j % 6) (by omega) (by omega) hv
          rw [show 6 * (j / 6) + j % 6 = j by omega, hc] at this
          exact nI_m1 (a := r) (by omega) this
      rw [d21]
      intro i j hi hj hne heq
      by_cases hiq : i = 6 * f + n / 4
      · by_cases hjq : j = 6 * f + n / 4
        · omega
        · rw [hiq, pk_us, pk_un hjq] at heq
          exact absurd heq.symm (un j hj hjq)
      · by_cases hjq : j = 6 * f + n / 4
        · rw [hjq, pk_us, pk_un hiq] at heq
          exact absurd heq (un i hi hiq)
        · rw [pk_un hiq] at hne
          rw [pk_un hiq, pk_un hjq] at heq
          exact p3 i j hi hj hne heq⟩
    (fun r' hr' hd => by
      rw [d21, pk_us] at hd
      have e : r = r' := (nI_eq (by omega) (by omega)).mp hd
      subst e
      refine ⟨fun s r0 hs hp _ _ => absurd hp (nocache s hs), fun _ => ?_⟩
      rw [d8]
      exact if_pos (by omega))
  obtain ⟨x0, x1⟩ := h.2.2.2.2
  have e19 := dn 19 (by omega) (by omega) (by omega) (by omega)
  have e26 := dn 26 (by omega) (by omega) (by omega) (by omega)
  have s33 := sn 33 (by decide) (by decide)
  exact kz_cnt h J (dn 1 (by omega) (by omega) (by omega) (by omega)) (dn 3 (by omega) (by omega) (by omega) (by omega)) (dn 6 (by omega) (by omega) (by omega) (by omega)) (fun k q1 q2 => dn k (by omega) (by omega) (by omega) (by omega)) (by rw [e19]) (by rw [e26]) (by rw [e19, e26, s33]; exact x0) (by rw [e19, e26, s33]; exact x1) (by rw [s33]) (sn 39 (by decide) (by decide)) (sn 40 (by decide) (by decide)) (sn 42 (by decide) (by decide)) (sn 43 (by decide) (by decide))
