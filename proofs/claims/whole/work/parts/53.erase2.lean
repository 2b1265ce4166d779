/-! erase: the loop over the parts -/
/-- i parts are dropped: memory E is a tied memory F but for two rows -/
def kl_I (N B : Nat) (C R : kb_M) (a f i : Nat) (E : kb_M) : Prop := ∃ (F S : kb_M) (L : List Nat), ki_Z N B F S ∧ ki_B F S a L ∧ (∀ k, k ≠ 34 → S k = (kr_er R a f i) k) ∧ (∀ j, ¬ (144 * a + 24 * f ≤ j ∧ j < 144 * a + 24 * f + 24) → S 34 j = R 34 j) ∧ (∀ s p, s < 3 → p < i → F (23 + 7 * a + s) 1 ≠ nI (6 * f + p)) ∧ F 7 = C 7 ∧ F (21 + 7 * a) = C (21 + 7 * a) ∧ (∀ k, k ≠ 7 → k ≠ 21 + 7 * a → E k = F k) ∧ E 7 = kl_7 C a f i ∧ E (21 + 7 * a) = kl_21 C a f i
theorem kl_up {E F : kb_M} {k : Nat} (h : E k = F k) (c i : Nat) (x : Int32) : kb_up E c i x k = kb_up F c i x k := by
  by_cases hk : k = c
  · subst hk
    rw [kb_up_at, kb_up_at, h]
  · rw [kb_up_ne _ _ _ hk, kb_up_ne _ _ _ hk]
    exact h
theorem kl_gf {E F : kb_M} {k : Nat} (h : E k = F k) (z r : Nat) : (ka_gf E z r) k = (ka_gf F z r) k := kl_up (kl_up (kl_up (kl_up h _ _ _) _ _ _) _ _ _) _ _ _
theorem kl_step {N B : Nat} {C R E : kb_M} {a f i : Nat} (hR : kr_ok R) (h : kl_I N B C R a f i E) (ha : a < 2) (hf : f < 6) (hi : 4 * i < kr_sz R (6 * a + f)) : kb_E (kb_en kz_App_dropPart [.inr (some (19 + 7 * a)), .inl (nI (6 * f + i))] E) (fun t => t.1 = none ∧ kl_I N B C R a f (i + 1) t.2) := by
  obtain ⟨F, S, L, hZ, hL, sn, s34, hno, f7, f21, en, e7, e21⟩ := h
  have h24 := (hR.2.1 (6 * a + f) (by omega)).2
  obtain ⟨ok, r35⟩ := kr_er_ok hR ha f i
  have s35 : S 35 = R 35 := (sn 35 (by decide)).trans r35
  have hP := (hZ.1.2.2.2.2.2 a ha).2.2.1
  obtain ⟨w, w1, w2, w3⟩ := hP.1 f i hf (by omega) (by unfold kr_sz; rw [s35]; exact hi)
  have efr : kr_fr S a = kr_fr (kr_er R a f i) a := by unfold kr_fr; rw [sn 38 (by decide)]
  have eb : E (21 + 7 * a) (6 * f + i) = nI w := by rw [e21, kl_21_at, if_neg (by omega), ← f21]; exact w2
  have ew : (C (21 + 7 * a) (6 * f + i)).toNatClampNeg = w := by rw [← f21, w2, nI_clamp (by omega)]
  have es : ∀ s, s < 3 → E (19 + 7 * a + 4 + s) = F (23 + 7 * a + s) := fun s hs => by
    rw [en _ (by omega) (by omega)]
    congr 1
    omega
  obtain ⟨l1, l2, l3, l4, l5, l6⟩ := hL
  have hL : ki_B F S a L := ⟨l1, l2, l3, l4, l5, l6⟩
  obtain ⟨k1, k2⟩ := ka_so_spec E (19 + 7 * a) (nI (6 * f + i))
  cases hfi : kr_fi (kr_er R a f i) a (nI (6 * f + i)) (kr_fr (kr_er R a f i) a) with
  | none =>
    have hnc : ∀ s, s < 3 → F (23 + 7 * a + s) 1 ≠ nI (6 * f + i) := by
      intro s hs he
      by_cases hm : s ∈ L
      · obtain ⟨j, hj⟩ := List.getElem?_of_mem hm
        have hjl : j < kr_fr S a := by rw [← l1]; exact (List.getElem?_eq_some_iff.mp hj).1
        have q := (l5 j s hj).1
        rw [sn 36 (by decide)] at q
        exact kr_fi_no hfi j (by omega) (q.symm.trans he)
      · rw [(l4 s hs hm).2.1] at he
        exact nI_m1 (by omega) he.symm
    have hso : ka_so E (19 + 7 * a) (nI (6 * f + i)) = none := by
      cases hz : ka_so E (19 + 7 * a) (nI (6 * f + i)) with
      | none => rfl
      | some z =>
        obtain ⟨s, s1, s2, s3⟩ := k2 z hz
        rw [s2, es s s1] at s3
        exact absurd s3 (hnc s s1)
    refine kb_E_imp (cq_drop0 ha (by omega) w1 E eb hso) (fun t ht => ?_)
    subst ht
    refine ⟨rfl, F, S, L, hZ, hL, fun k hk => by rw [kr_er_n R a f i hfi]; exact sn k hk, s34, fun s p hs hp => ?_, f7, f21, fun k q1 q2 => ?_, ?_, ?_⟩
    · by_cases hpi : p = i
      · rw [hpi]; exact hnc s hs
      · exact hno s p hs (by omega)
    · show kb_up (kb_up E 7 w (-1)) (21 + 7 * a) (6 * f + i) (-1) k = F k
      rw [kb_up_ne _ _ _ q2, kb_up_ne _ _ _ q1]
      exact en k q1 q2
    · show kb_up (kb_up E 7 w (-1)) (21 + 7 * a) (6 * f + i) (-1) 7 = upd (kl_7 C a f i) (C (21 + 7 * a) (6 * f + i)).toNatClampNeg (-1)
      rw [kb_up_ne _ _ _ (by omega), kb_up_at, e7, ew]
    · show kb_up (kb_up E 7 w (-1)) (21 + 7 * a) (6 * f + i) (-1) (21 + 7 * a) = upd (kl_21 C a f i) (6 * f + i) (-1)
      rw [kb_up_at, kb_up_ne _ _ _ (by omega), e21]
  | some j =>
    obtain ⟨hjl, hj36⟩ := kr_fi_lt hfi
    have hjL : j < L.length := by rw [l1, efr]; exact hjl
    obtain ⟨s, hs⟩ : ∃ s, L[j]? = some s := ⟨L[j], List.getElem?_eq_getElem hjL⟩
    have hs3 := l3 s (List.mem_of_getElem? hs)
    obtain ⟨q1, -, ⟨r, r1, r2, -⟩, -⟩ := l5 j s hs
    rw [sn 36 (by decide), hj36] at q1
    have hso : ka_so E (19 + 7 * a) (nI (6 * f + i)) = some (23 + 7 * a + s) := by
      cases hz : ka_so E (19 + 7 * a) (nI (6 * f + i)) with
      | none =>
        have := k1 hz s hs3
        rw [es s hs3] at this
        exact absurd q1 this
      | some z =>
        obtain ⟨y, y1, y2, y3⟩ := k2 z hz
        rw [y2, es y y1] at y3
        have := ka_uniq hL hs3 y1 (by omega) q1 y3
        rw [y2, this]
        congr 1
        omega
    have ef : E (23 + 7 * a + s) 0 = nI r := by rw [en _ (by omega) (by omega)]; exact r2
    have dn : ∀ M : kb_M, ∀ k, k ≠ 4 → k ≠ 23 + 7 * a + s → (ka_gf M (23 + 7 * a + s) r) k = M k := fun M k q1 q2 => by unfold ka_gf; rw [kb_up_ne _ _ _ q2, kb_up_ne _ _ _ q2, kb_up_ne _ _ _ q2, kb_up_ne _ _ _ q1]
    have dz : (ka_gf F (23 + 7 * a + s) r) (23 + 7 * a + s) = upd (upd (upd (F (23 + 7 * a + s)) 0 (-1)) 1 (-1)) 3 0 := by unfold ka_gf; rw [kb_up_at, kb_up_at, kb_up_at, kb_up_ne _ _ _ (by omega)]
    generalize hg : (fun x => if 144 * a + 24 * f + 4 * i ≤ x ∧ x < 144 * a + 24 * f + 4 * i + 4 then F 8 (4 * w + (x - (144 * a + 24 * f + 4 * i))) else S 34 x : Nat → Int32) = g
    have D := kz_drop (S := kb_ro (kr_rm S a j) 34 g) hZ ha hL hs r1 r2 hf (show i < 6 by omega) q1 w1 w2 (fun k hk => kb_ro_ne _ _ hk) (fun x => by rw [kb_ro_at, ← hg])
    have eS : S = kb_ro (kr_er R a f i) 34 (S 34) := by
      funext k
      by_cases hk : k = 34
      · rw [hk, kb_ro_at]
      · rw [kb_ro_ne _ _ hk, sn k hk]
    refine kb_E_imp (cq_drop1 ha (by omega) w1 hs3 r1 E eb hso ef) (fun t ht => ?_)
    subst ht
    refine ⟨rfl, _, _, _, D.1, D.2, fun k hk => ?_, fun x hx => ?_, fun y p hy hp => ?_, ?_, ?_, fun k q1 q2 => ?_, ?_, ?_⟩
    · rw [kr_er_s R a f i j hfi, kb_ro_ne _ _ hk, eS, kc_rm, kb_ro_ne _ _ hk]
    · rw [kb_ro_at, ← hg]
      show (if 144 * a + 24 * f + 4 * i ≤ x ∧ x < 144 * a + 24 * f + 4 * i + 4 then F 8 (4 * w + (x - (144 * a + 24 * f + 4 * i))) else S 34 x) = R 34 x
      rw [if_neg (by omega)]
      exact s34 x hx
    · by_cases hys : y = s
      · rw [hys, dz, pk_un (by decide), pk_us]
        exact fun q => nI_m1 (by omega) q.symm
      · rw [dn F _ (by omega) (by omega)]
        by_cases hpi : p = i
        · rw [hpi]
          exact fun q => hys (ka_uniq hL hs3 hy (by omega) q1 q)
        · exact hno y p hy (by omega)
    · rw [dn F _ (by omega) (by omega)]; exact f7
    · rw [dn F _ (by omega) (by omega)]; exact f21
    · show kb_up (kb_up (ka_gf E (23 + 7 * a + s) r) 7 w (-1)) (21 + 7 * a) (6 * f + i) (-1) k = _
      rw [kb_up_ne _ _ _ q2, kb_up_ne _ _ _ q1]
      exact kl_gf (en k q1 q2) _ _
    · show kb_up (kb_up (ka_gf E (23 + 7 * a + s) r) 7 w (-1)) (21 + 7 * a) (6 * f + i) (-1) 7 = upd (kl_7 C a f i) (C (21 + 7 * a) (6 * f + i)).toNatClampNeg (-1)
      rw [kb_up_ne _ _ _ (by omega), kb_up_at, dn E _ (by omega) (by omega), e7, ew]
    · show kb_up (kb_up (ka_gf E (23 + 7 * a + s) r) 7 w (-1)) (21 + 7 * a) (6 * f + i) (-1) (21 + 7 * a) = upd (kl_21 C a f i) (6 * f + i) (-1)
      rw [kb_up_at, kb_up_ne _ _ _ (by omega), dn E _ (by omega) (by omega), e21]
/-- all parts are dropped, the length is 0 -/
theorem kl_end {N B : Nat} {C R E : kb_M} {a f m : Nat} (hR : kr_ok R) (hm : (kr_sz R (6 * a + f) + 3) / 4 = m) (h : kl_I N B C R a f m E) (ha : a < 2) (hf : f < 6) : ki_Z N B (kb_up E (20 + 7 * a) f 0) (kr_era R a f) := by
  obtain ⟨F, S, L, hZ, hL, sn, s34, hno, f7, f21, en, e7, e21⟩ := h
  have h24 := (hR.2.1 (6 * a + f) (by omega)).2
  obtain ⟨ok, r35⟩ := kr_er_ok hR ha f m
  have s35 : S 35 = R 35 := (sn 35 (by decide)).trans r35
  have hsz : ∀ j, kr_sz S j = kr_sz R j := fun j => by unfold kr_sz; rw [s35]
  have eT : kr_era R a f = kb_up (kr_er R a f m) 35 (6 * a + f) 0 := by unfold kr_era; rw [hm]
  have tn : ∀ k, k ≠ 34 → k ≠ 35 → (kr_era R a f) k = S k := fun k k1 k2 => by rw [eT, kb_up_ne _ _ _ k2, sn k k1]
  have dn : ∀ k, k ≠ 7 → k ≠ 20 + 7 * a → k ≠ 21 + 7 * a → (kb_up E (20 + 7 * a) f 0) k = F k := fun k q1 q2 q3 => by rw [kb_up_ne _ _ _ q2]; exact en k q1 q3
  have J := ka_shrink (T := kr_era R a f) (D := kb_up E (20 + 7 * a) f 0) hZ.1 ha hL hf (hsz _) hm (fun s hs p hp => by
      by_cases hpm : p < m
      · exact hno s p hs hpm
      · obtain ⟨l1, l2, l3, l4, l5, l6⟩ := hL
        by_cases hml : s ∈ L
        · obtain ⟨j, hj⟩ := List.getElem?_of_mem hml
          obtain ⟨q1, -, -, ⟨f1, p1, y1, y2, y3, y4⟩, -⟩ := l5 j s hj
          intro q
          have e := (nI_eq (by omega) (by omega)).mp ((q1.trans y4).symm.trans q)
          have : f1 = f := by omega
          subst this
          rw [hsz] at y3
          omega
        · rw [(l4 s hs hml).2.1]
          exact fun q => nI_m1 (by omega) q.symm)
    (by rw [kb_up_at, en _ (by omega) (by omega)]) (by rw [kb_up_ne _ _ _ (by omega), e7, kl_7_eq f7 f21]) (by rw [kb_up_ne _ _ _ (by omega), e21, kl_21_eq f21]) dn (by rw [eT, kb_up_at, r35, s35]) (fun x hx => by rw [eT, kb_up_ne _ _ _ (by decide), kr_er_34, s34 x hx]) tn
  have s33 := tn 33 (by decide) (by decide)
  obtain ⟨x0, x1⟩ := hZ.2.2.2.2
  have e19 := dn 19 (by omega) (by omega) (by omega)
  have e26 := dn 26 (by omega) (by omega) (by omega)
  exact kz_cnt hZ J.1 (dn 1 (by omega) (by omega) (by omega)) (dn 3 (by omega) (by omega) (by omega)) (dn 6 (by omega) (by omega) (by omega)) (fun k q1 q2 => dn k (by omega) (by omega) (by omega)) (by rw [e19]) (by rw [e26]) (by rw [e19, e26, s33]; exact x0) (by rw [e19, e26, s33]; exact x1) (by rw [s33]) (tn 39 (by decide) (by decide)) (tn 40 (by decide) (by decide)) (tn 42 (by decide) (by decide)) (tn 43 (by decide) (by decide))
