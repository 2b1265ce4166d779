/-! the reference: time, wishes, claims -/
theorem kb_ro_at (M : kb_M) (k : Nat) (r : Nat → Int32) : kb_ro M k r k = r := by simp [kb_ro]
theorem kb_ro_ne (M : kb_M) {k j : Nat} (r : Nat → Int32) (h : j ≠ k) : kb_ro M k r j = M j := by simp [kb_ro, h]
theorem kb_up_ne (M : kb_M) {k j : Nat} (i : Nat) (x : Int32) (h : j ≠ k) : kb_up M k i x j = M j := by simp [kb_up, kb_ro, h]
theorem kb_up_at (M : kb_M) (k i : Nat) (x : Int32) : kb_up M k i x k = upd (M k) i x := by simp [kb_up, kb_ro]
/-- how many of the first n tickets of guest g are due at time t -/
def kr_k (R : kb_M) (t : Int32) (g : Nat) : Nat → Nat
  | 0 => 0
  | n + 1 => kr_k R t g n + (if R 42 (60 * g + n) = 3 ∧ R 43 (60 * g + n) ≤ t then 1 else 0)
/-- they are taken -/
def kr_mg (R : kb_M) (t : Int32) (g n : Nat) : kb_M := kb_ro (kb_ro R 42 (fun j => if 60 * g ≤ j ∧ j < 60 * g + n ∧ R 42 j = 3 ∧ R 43 j ≤ t then 1 else R 42 j)) 40 (upd (R 40) g (R 40 g + nI (kr_k R t g n)))
theorem kr_mg_0 (R : kb_M) (t : Int32) (g : Nat) : kr_mg R t g 0 = R := by
  funext a j
  unfold kr_mg kb_ro upd
  try dsimp only
  by_cases h : a = 40
  · rw [if_pos h, h]
    by_cases hj : j = g
    · rw [if_pos hj, hj, show kr_k R t g 0 = 0 from rfl, nI_0, Int32.add_zero]
    · rw [if_neg hj]
  · rw [if_neg h]
    by_cases h2 : a = 42
    · rw [if_pos h2, if_neg (by omega), h2]
    · rw [if_neg h2]
theorem kr_mg_no {R : kb_M} {t : Int32} {g n : Nat} (h : ¬ (R 42 (60 * g + n) = 3 ∧ R 43 (60 * g + n) ≤ t)) : kr_mg R t g (n + 1) = kr_mg R t g n := by
  funext a j
  unfold kr_mg kb_ro upd
  try dsimp only
  rw [show kr_k R t g (n + 1) = kr_k R t g n from by show _ + _ = _; rw [if_neg h]; rfl]
  by_cases h1 : a = 40
  · rw [if_pos h1, if_pos h1]
  · rw [if_neg h1, if_neg h1]
    by_cases h2 : a = 42
    · rw [if_pos h2, if_pos h2]
      by_cases hj : j = 60 * g + n
      · rw [if_neg (fun q => h (by rw [← hj]; exact q.2.2)), if_neg (by omega)]
      · by_cases h3 : 60 * g ≤ j ∧ j < 60 * g + n ∧ R 42 j = 3 ∧ R 43 j ≤ t
        · rw [if_pos ⟨h3.1, by omega, h3.2.2⟩, if_pos h3]
        · rw [if_neg (fun q => h3 ⟨q.1, by omega, q.2.2⟩), if_neg h3]
    · rw [if_neg h2, if_neg h2]
theorem kr_mg_yes {R : kb_M} {t : Int32} {g n : Nat} (h : R 42 (60 * g + n) = 3 ∧ R 43 (60 * g + n) ≤ t) : kr_mg R t g (n + 1) = kb_up (kb_up (kr_mg R t g n) 42 (60 * g + n) 1) 40 g ((kr_mg R t g n) 40 g + 1) := by
  have hk : kr_k R t g (n + 1) = kr_k R t g n + 1 := by show _ + _ = _; rw [if_pos h]
  funext a j
  by_cases h1 : a = 40
  · subst h1
    rw [kb_up_at, kb_up_ne _ _ _ (by decide)]
    unfold kr_mg
    rw [kb_ro_at, kb_ro_at]
    unfold upd
    by_cases hj : j = g
    · rw [if_pos hj, if_pos hj, if_pos rfl, hk, nI_succ, Int32.add_assoc]
    · rw [if_neg hj, if_neg hj, if_neg hj]
  · rw [kb_up_ne _ _ _ h1]
    by_cases h2 : a = 42
    · subst h2
      rw [kb_up_at]
      unfold kr_mg
      rw [kb_ro_ne _ _ (by decide), kb_ro_at, kb_ro_ne _ _ (by decide), kb_ro_at]
      unfold upd
      by_cases hj : j = 60 * g + n
      · rw [if_pos hj, hj, if_pos ⟨by omega, by omega, h⟩]
      · rw [if_neg hj]
        try dsimp only
        by_cases h3 : 60 * g ≤ j ∧ j < 60 * g + n ∧ R 42 j = 3 ∧ R 43 j ≤ t
        · rw [if_pos ⟨h3.1, by omega, h3.2.2⟩, if_pos h3]
        · rw [if_neg (fun q => h3 ⟨q.1, by omega, q.2.2⟩), if_neg h3]
    · rw [kb_up_ne _ _ _ h2]
      unfold kr_mg
      rw [kb_ro_ne _ _ h1, kb_ro_ne _ _ h2, kb_ro_ne _ _ h1, kb_ro_ne _ _ h2]
theorem kr_mg_ne (R : kb_M) (t : Int32) (g n : Nat) {k : Nat} (h1 : k ≠ 40) (h2 : k ≠ 42) : kr_mg R t g n k = R k := by
  unfold kr_mg
  rw [kb_ro_ne _ _ h1, kb_ro_ne _ _ h2]
theorem kr_mg_42 (R : kb_M) (t : Int32) (g n j : Nat) : kr_mg R t g n 42 j = if 60 * g ≤ j ∧ j < 60 * g + n ∧ R 42 j = 3 ∧ R 43 j ≤ t then 1 else R 42 j := by
  unfold kr_mg
  rw [kb_ro_ne _ _ (by decide), kb_ro_at]
theorem kr_mg_40 (R : kb_M) (t : Int32) (g n : Nat) : kr_mg R t g n 40 = upd (R 40) g (R 40 g + nI (kr_k R t g n)) := by
  unfold kr_mg
  rw [kb_ro_at]
set_option maxRecDepth 100000 in
/-- the inner loop: guest g's tickets -/
theorem cr_moveG {S : kb_M} {t : Int32} {g n c : Nat} {Q : kb_R → Prop} (hg : g < 2) (hn : n ≤ 60) (hbd : S 39 g = nI n) (ht : S 33 0 = t) (K : ∀ x, kb_E (kz_Model_moveTo, 101, [some (.inr (some 33)), some (.inl t), some (.inl (nI (c + kr_k S t g n))), some (.inl (nI (2 + g))), some (.inl (nI n)), x], [], kr_mg S t g n) Q) :
    ∀ (k i : Nat) (w v : Int32) (x : Option kb_v), i + k = n → w = nI (c + kr_k S t g i) → v = nI i → kb_E (kz_Model_moveTo, 17, [some (.inr (some 33)), some (.inl t), some (.inl w), some (.inl (nI (2 + g))), some (.inl v), x], [], kr_mg S t g i) Q := by
  have eg := kr_g2 hg
  have eg2 : (nI g).toNatClampNeg = g := nI_clamp (by omega)
  intro k
  induction k with
  | zero =>
    intro i w v x hi hw hv
    subst hv; subst hw
    have hi : i = n := by omega
    subst hi
    refine kb_go 40 [17, 101] ?_
    refine And.intro (by rw [eg]; exact kb_in_nI hg (by omega)) ?_
    refine And.intro (fun h => K x) (fun h => ?_)
    have h := of_decide_eq_false h
    rw [eg, eg2, kr_mg_ne _ _ _ _ (by decide) (by decide), hbd] at h
    exact absurd (Int32.le_refl _) h
  | succ k ih =>
    intro i w v x hi hw hv
    subst hv; subst hw
    have hx := kr_60 hg i
    have hcl : (nI (60 * g + i)).toNatClampNeg = 60 * g + i := nI_clamp (by omega)
    have hin : kb_in (nI (60 * g + i)) 120 = true := kb_in_nI (by omega) (by omega)
    have h42 : kr_mg S t g i 42 (60 * g + i) = S 42 (60 * g + i) := by rw [kr_mg_42, if_neg (by omega)]
    refine kb_go 80 [17, 101] ?_
    refine And.intro (by rw [eg]; exact kb_in_nI hg (by omega)) ?_
    refine And.intro (fun h => ?_) (fun _ => ?_)
    · have h := of_decide_eq_true h
      rw [eg, eg2, kr_mg_ne _ _ _ _ (by decide) (by decide), hbd, nI_leI (by omega) (by omega)] at h
      omega
    · refine And.intro (by rw [eg, hx]; exact hin) ?_
      refine And.intro (fun h => ?_) (fun h => ?_)
      · have h := of_decide_eq_true h
        rw [eg, hx, hcl, h42] at h
        have hno : ¬ (S 42 (60 * g + i) = 3 ∧ S 43 (60 * g + i) ≤ t) := fun q => h q.1
        rw [← kr_mg_no hno]
        refine ih (i + 1) _ _ _ (by omega) ?_ (nI_succ i).symm
        rw [show kr_k S t g (i + 1) = kr_k S t g i from by show _ + _ = _; rw [if_neg hno]; rfl]
      · have h := Classical.not_not.mp (of_decide_eq_false h)
        rw [eg, hx, hcl, h42] at h
        refine And.intro (by rw [eg, hx]; exact hin) ?_
        refine And.intro (fun h2 => ?_) (fun h2 => ?_)
        · have h2 := of_decide_eq_true h2
          rw [eg, hx, hcl, kr_mg_ne _ _ _ _ (by decide) (by decide), kr_mg_ne _ _ _ _ (by decide) (by decide), ht] at h2
          have hno : ¬ (S 42 (60 * g + i) = 3 ∧ S 43 (60 * g + i) ≤ t) := fun q => absurd q.2 (Int32.not_le.mpr h2)
          rw [← kr_mg_no hno]
          refine ih (i + 1) _ _ _ (by omega) ?_ (nI_succ i).symm
          rw [show kr_k S t g (i + 1) = kr_k S t g i from by show _ + _ = _; rw [if_neg hno]; rfl]
        · have h2 := of_decide_eq_false h2
          rw [eg, hx, hcl, kr_mg_ne _ _ _ _ (by decide) (by decide), kr_mg_ne _ _ _ _ (by decide) (by decide), ht] at h2
          have hyes : S 42 (60 * g + i) = 3 ∧ S 43 (60 * g + i) ≤ t := ⟨h, Int32.not_lt.mp h2⟩
          refine And.intro (by rw [eg, hx]; exact hin) ?_
          refine And.intro (by rw [eg]; exact kb_in_nI hg (by omega)) ?_
          refine And.intro (by rw [eg]; exact kb_in_nI hg (by omega)) ?_
          have h3 := fun x => ih (i + 1) _ _ x (by omega) (show nI (c + kr_k S t g i) + 1 = nI (c + kr_k S t g (i + 1)) from by rw [show kr_k S t g (i + 1) = kr_k S t g i + 1 from by show _ + _ = _; rw [if_pos hyes], ← Nat.add_assoc, nI_succ]) (nI_succ i).symm
          rw [kr_mg_yes hyes] at h3
          have e40 : (kb_up (kr_mg S t g i) 42 (60 * g + i) 1) 40 = (kr_mg S t g i) 40 := kb_up_ne _ _ _ (by decide)
          have h4 := h3 (some (.inl ((Int8.ofInt 60).toInt32 * (nI (2 + g) - Int32.ofInt 2) + nI i)))
          have e1 : ((Int8.ofInt 60).toInt32 * (nI (2 + g) - Int32.ofInt 2) + nI i).toNatClampNeg = 60 * g + i := by rw [eg, hx, hcl]
          have e2 : (nI (2 + g) - Int32.ofInt 2).toNatClampNeg = g := by rw [eg, eg2]
          show kb_E (_, _, _, _, kb_up (kb_up (kr_mg S t g i) 42 ((Int8.ofInt 60).toInt32 * (nI (2 + g) - Int32.ofInt 2) + nI i).toNatClampNeg 1) 40 (nI (2 + g) - Int32.ofInt 2).toNatClampNeg ((kb_up (kr_mg S t g i) 42 ((Int8.ofInt 60).toInt32 * (nI (2 + g) - Int32.ofInt 2) + nI i).toNatClampNeg 1) 40 (nI (2 + g) - Int32.ofInt 2).toNatClampNeg + 1)) Q
          rw [e1, e2, e40]
          exact h4
theorem kr_k_eq {R S : kb_M} {t : Int32} {g : Nat} : ∀ n, (∀ j, 60 * g ≤ j → j < 60 * g + n → S 42 j = R 42 j ∧ S 43 j = R 43 j) → kr_k S t g n = kr_k R t g n := by
  intro n
  induction n with
  | zero => intro _; rfl
  | succ n ih =>
    intro h
    unfold kr_k
    rw [ih (fun j h1 h2 => h j h1 (by omega)), (h (60 * g + n) (by omega) (by omega)).1, (h (60 * g + n) (by omega) (by omega)).2]
/-- the time moves to t -/
def kr_m0 (R : kb_M) (t : Int32) : kb_M := kr_mg (kb_up R 33 0 t) t 0 (kr_bd R 0)
def kr_mv (R : kb_M) (t : Int32) : kb_M := kr_mg (kr_m0 R t) t 1 (kr_bd R 1)
set_option maxRecDepth 100000 in
theorem cr_moveTo {R : kb_M} (hR : kr_ok R) (t : Int32) : kb_E (kb_en kz_Model_moveTo [.inr (some 33), .inl t] R) (fun q => q = (some (.inl (nI (kr_k R t 0 (kr_bd R 0) + kr_k R t 1 (kr_bd R 1)))), kr_mv R t)) := by
  have hb0 := hR.1 0 (by decide)
  have hb1 := hR.1 1 (by decide)
  have e0 : kr_k (kb_up R 33 0 t) t 0 (kr_bd R 0) = kr_k R t 0 (kr_bd R 0) := kr_k_eq _ (fun j _ _ => ⟨by rw [kb_up_ne _ _ _ (by decide)], by rw [kb_up_ne _ _ _ (by decide)]⟩)
  have e1 : kr_k (kr_m0 R t) t 1 (kr_bd R 1) = kr_k R t 1 (kr_bd R 1) := kr_k_eq _ (fun j h1 _ => ⟨by unfold kr_m0; rw [kr_mg_42, if_neg (by omega), kb_up_ne _ _ _ (by decide)], by unfold kr_m0; rw [kr_mg_ne _ _ _ _ (by decide) (by decide), kb_up_ne _ _ _ (by decide)]⟩)
  have t1 : (kr_m0 R t) 33 0 = t := by unfold kr_m0; rw [kr_mg_ne _ _ _ _ (by decide) (by decide), kb_up_at]; exact pk_us
  have t0 : (kb_up R 33 0 t) 33 0 = t := by rw [kb_up_at]; exact pk_us
  have b0 : (kb_up R 33 0 t) 39 0 = nI (kr_bd R 0) := by rw [kb_up_ne _ _ _ (by decide)]; exact hb0.1
  have b1 : (kr_m0 R t) 39 1 = nI (kr_bd R 1) := by unfold kr_m0; rw [kr_mg_ne _ _ _ _ (by decide) (by decide), kb_up_ne _ _ _ (by decide)]; exact hb1.1
  have G1 : ∀ (w : Int32) (x : Option kb_v), w = nI (kr_k R t 0 (kr_bd R 0)) → kb_E (kz_Model_moveTo, 17, [some (.inr (some 33)), some (.inl t), some (.inl w), some (.inl (nI (2 + 1))), some (.inl 0), x], [], kr_m0 R t) (fun q => q = (some (.inl (nI (kr_k R t 0 (kr_bd R 0) + kr_k R t 1 (kr_bd R 1)))), kr_mv R t)) := by
    intro w x hw
    have h := cr_moveG (S := kr_m0 R t) (t := t) (g := 1) (n := kr_bd R 1) (c := kr_k R t 0 (kr_bd R 0)) (Q := fun q => q = (some (.inl (nI (kr_k R t 0 (kr_bd R 0) + kr_k R t 1 (kr_bd R 1)))), kr_mv R t)) (by decide) hb1.2 b1 t1 ?_ (kr_bd R 1) 0 w 0 x (by omega) hw rfl
    · rw [kr_mg_0] at h
      exact h
    · intro x
      rw [e1]
      refine kb_go 20 [] ?_
      refine And.intro (fun _ => ?_) (fun h => absurd h (by decide))
      exact And.intro rfl rfl
  have G0 : ∀ (x : Option kb_v), kb_E (kz_Model_moveTo, 17, [some (.inr (some 33)), some (.inl t), some (.inl 0), some (.inl (nI (2 + 0))), some (.inl 0), x], [], kb_up R 33 0 t) (fun q => q = (some (.inl (nI (kr_k R t 0 (kr_bd R 0) + kr_k R t 1 (kr_bd R 1)))), kr_mv R t)) := by
    intro x
    have h := cr_moveG (S := kb_up R 33 0 t) (t := t) (g := 0) (n := kr_bd R 0) (c := 0) (Q := fun q => q = (some (.inl (nI (kr_k R t 0 (kr_bd R 0) + kr_k R t 1 (kr_bd R 1)))), kr_mv R t)) (by decide) hb0.2 b0 t0 ?_ (kr_bd R 0) 0 0 0 x (by omega) rfl rfl
    · rw [kr_mg_0] at h
      exact h
    · intro x
      rw [e0, Nat.zero_add]
      refine kb_go 20 [17] ?_
      refine And.intro (fun h => absurd h (by decide)) (fun _ => ?_)
      exact G1 _ x rfl
  refine kb_go 20 [17] ?_
  refine And.intro (fun h => absurd h (by decide)) (fun _ => ?_)
  exact G0 none
/-- the earliest deadline among the first n tickets of guest g, of kind b, and v (below 0: none) -/
def kr_e1 (R : kb_M) (g : Nat) (b v : Int32) : Nat → Int32
  | 0 => v
  | n + 1 => if R 42 (60 * g + n) = 3 ∧ R 41 (60 * g + n) = b ∧ (kr_e1 R g b v n < 0 ∨ R 43 (60 * g + n) < kr_e1 R g b v n) then R 43 (60 * g + n) else kr_e1 R g b v n
def kr_e (R : kb_M) (b : Int32) : Int32 := kr_e1 R 1 b (kr_e1 R 0 b (-1) (kr_bd R 0)) (kr_bd R 1)
theorem kr_60' {g : Nat} (hg : g < 2) (t : Nat) : (Int8.ofInt 60).toInt32 * nI g + nI t = nI (60 * g + t) := kr_60 hg t
set_option maxRecDepth 100000 in
theorem cr_earliestG {R : kb_M} {b v0 : Int32} {g n : Nat} {Q : kb_R → Prop} (hg : g < 2) (hn : n ≤ 60) (hbd : R 39 g = nI n) (K : ∀ x, kb_E (kz_Model_earliest, 83, [some (.inr (some 33)), some (.inl b), some (.inl (kr_e1 R g b v0 n)), some (.inl (nI g)), some (.inl (nI n)), x], [], R) Q) :
    ∀ (k i : Nat) (w v : Int32) (x : Option kb_v), i + k = n → w = kr_e1 R g b v0 i → v = nI i → kb_E (kz_Model_earliest, 12, [some (.inr (some 33)), some (.inl b), some (.inl w), some (.inl (nI g)), some (.inl v), x], [], R) Q := by
  have eg2 : (nI g).toNatClampNeg = g := nI_clamp (by omega)
  intro k
  induction k with
  | zero =>
    intro i w v x hi hw hv
    subst hv; subst hw
    have hi : i = n := by omega
    subst hi
    refine kb_go 40 [12, 83] ?_
    refine And.intro (kb_in_nI hg (by omega)) ?_
    refine And.intro (fun h => K x) (fun h => ?_)
    have h := of_decide_eq_false h
    rw [eg2, hbd] at h
    exact absurd (Int32.le_refl _) h
  | succ k ih =>
    intro i w v x hi hw hv
    subst hv
    have hx := kr_60 hg i
    have hcl : (nI (60 * g + i)).toNatClampNeg = 60 * g + i := nI_clamp (by omega)
    have hin : kb_in (nI (60 * g + i)) 120 = true := kb_in_nI (by omega) (by omega)
    have hs : kr_e1 R g b v0 (i + 1) = if R 42 (60 * g + i) = 3 ∧ R 41 (60 * g + i) = b ∧ (kr_e1 R g b v0 i < 0 ∨ R 43 (60 * g + i) < kr_e1 R g b v0 i) then R 43 (60 * g + i) else kr_e1 R g b v0 i := rfl
    refine kb_go 80 [12, 83] ?_
    refine And.intro (kb_in_nI hg (by omega)) ?_
    refine And.intro (fun h => ?_) (fun _ => ?_)
    · have h := of_decide_eq_true h
      rw [eg2, hbd, nI_leI (by omega) (by omega)] at h
      omega
    · refine And.intro (by rw [hx]; exact hin) ?_
      refine And.intro (fun h => ?_) (fun h => ?_)
      · have h := of_decide_eq_true h
        rw [hx, hcl] at h
        refine ih (i + 1) _ _ _ (by omega) ?_ (nI_succ i).symm
        rw [hs, if_neg (fun q => h q.1)]
        exact hw
      · have h := Classical.not_not.mp (of_decide_eq_false h)
        rw [hx, hcl] at h
        refine And.intro (by rw [hx]; exact hin) ?_
        refine And.intro (fun h2 => ?_) (fun h2 => ?_)
        · have h2 := of_decide_eq_true h2
          rw [hx, hcl] at h2
          refine ih (i + 1) _ _ _ (by omega) ?_ (nI_succ i).symm
          rw [hs, if_neg (fun q => h2 q.2.1)]
          exact hw
        · have h2 := Classical.not_not.mp (of_decide_eq_false h2)
          rw [hx, hcl] at h2
          refine And.intro (fun h3 => ?_) (fun h3 => ?_)
          · have h3 := of_decide_eq_true h3
            refine And.intro (by rw [hx]; exact hin) ?_
            refine ih (i + 1) _ _ _ (by omega) ?_ (nI_succ i).symm
            rw [hs, if_pos ⟨h, h2, Or.inl (by rw [← hw]; exact h3)⟩, hx, hcl]
          · have h3 := of_decide_eq_false h3
            refine And.intro (by rw [hx]; exact hin) ?_
            refine And.intro (fun h4 => ?_) (fun h4 => ?_)
            · have h4 := of_decide_eq_true h4
              rw [hx, hcl] at h4
              refine ih (i + 1) _ _ _ (by omega) ?_ (nI_succ i).symm
              rw [hs, if_neg (fun q => by
                rcases q.2.2 with q | q
                · exact h3 (by rw [hw]; exact q)
                · exact absurd q (Int32.not_lt.mpr (by rw [← hw]; exact h4)))]
              exact hw
            · have h4 := of_decide_eq_false h4
              rw [hx, hcl] at h4
              refine And.intro (by rw [hx]; exact hin) ?_
              refine ih (i + 1) _ _ _ (by omega) ?_ (nI_succ i).symm
              rw [hs, if_pos ⟨h, h2, Or.inr (by rw [← hw]; exact Int32.not_le.mp h4)⟩, hx, hcl]
set_option maxRecDepth 100000 in
theorem cr_earliest {R : kb_M} (hR : kr_ok R) (b : Int32) : kb_E (kb_en kz_Model_earliest [.inr (some 33), .inl b] R) (fun q => q = (some (.inl (kr_e R b)), R)) := by
  have hb0 := hR.1 0 (by decide)
  have hb1 := hR.1 1 (by decide)
  have G1 : ∀ (w : Int32) (x : Option kb_v), w = kr_e1 R 0 b (-1) (kr_bd R 0) → kb_E (kz_Model_earliest, 12, [some (.inr (some 33)), some (.inl b), some (.inl w), some (.inl (nI 1)), some (.inl 0), x], [], R) (fun q => q = (some (.inl (kr_e R b)), R)) := by
    intro w x hw
    refine cr_earliestG (v0 := kr_e1 R 0 b (-1) (kr_bd R 0)) (g := 1) (n := kr_bd R 1) (by decide) hb1.2 hb1.1 ?_ (kr_bd R 1) 0 w 0 x (by omega) hw rfl
    intro x
    refine kb_go 20 [] ?_
    refine And.intro (fun _ => ?_) (fun h => absurd h (by decide))
    exact And.intro rfl rfl
  refine kb_go 20 [12] ?_
  refine And.intro (fun h => absurd h (by decide)) (fun _ => ?_)
  refine cr_earliestG (v0 := -1) (g := 0) (n := kr_bd R 0) (by decide) hb0.2 hb0.1 ?_ (kr_bd R 0) 0 _ _ _ (by omega) rfl rfl
  intro x
  refine kb_go 20 [12] ?_
  refine And.intro (fun h => absurd h (by decide)) (fun _ => ?_)
  exact G1 _ x rfl
/-- a ticket is asked for -/
def kr_mk (R : kb_M) (j : Nat) : kb_M := kb_up (kb_up R 42 j 3) 43 j (R 33 0 + 5)
set_option maxRecDepth 100000 in
theorem cr_mark (R : kb_M) {j : Nat} (hj : j < 120) : kb_E (kb_en kz_Model_mark [.inr (some 33), .inl (nI j)] R) (fun q => q = (none, kr_mk R j)) := by
  have hcl : (nI j).toNatClampNeg = j := nI_clamp (by omega)
  refine kb_go 20 [] ?_
  refine And.intro (kb_in_nI hj (by omega)) ?_
  refine And.intro (kb_in_nI hj (by omega)) (And.intro rfl ?_)
  rw [hcl]
  rfl
/-- the last of the first n tickets of guest g that is of kind b and not asked for -/
def kr_la (R : kb_M) (g : Nat) (b : Int32) : Nat → Option Nat
  | 0 => none
  | n + 1 => if R 42 (60 * g + n) = 2 ∧ R 41 (60 * g + n) = b then some n else kr_la R g b n
def kr_lv (g : Nat) (o : Option Nat) : Int32 := match o with
  | none => -1
  | some t => nI (60 * g + t)
def kr_ri (R : kb_M) (b : Int32) : Nat := if kr_l R 0 b (kr_bd R 0) < kr_l R 1 b (kr_bd R 1) then 1 else 0
def kr_wi (R : kb_M) (b : Int32) : kb_M := if kr_e R b < 0 then (match kr_la R (kr_ri R b) b (kr_bd R (kr_ri R b)) with
  | none => R
  | some t => kr_mk R (60 * kr_ri R b + t)) else R
theorem kr_la_lt {R : kb_M} {g : Nat} {b : Int32} {t : Nat} : ∀ {n : Nat}, kr_la R g b n = some t → t < n ∧ R 42 (60 * g + t) = 2 ∧ R 41 (60 * g + t) = b := by
  intro n
  induction n with
  | zero => intro h; cases h
  | succ n ih =>
    intro h
    unfold kr_la at h
    split at h
    next hc => cases h; exact ⟨by omega, hc⟩
    next => exact ⟨by have := (ih h).1; omega, (ih h).2⟩
set_option maxRecDepth 100000 in
theorem cr_wishG {R : kb_M} {b : Int32} {g n : Nat} {Q : kb_R → Prop} (hg : g < 2) (hn : n ≤ 60) (hbd : R 39 g = nI n) (K : ∀ x, kb_E (kz_Model_wish, 94, [some (.inr (some 33)), some (.inl b), some (.inl (nI (2 + g))), some (.inl (kr_lv g (kr_la R g b n))), some (.inl (nI n)), x], [], R) Q) :
    ∀ (k i : Nat) (w v : Int32) (x : Option kb_v), i + k = n → w = kr_lv g (kr_la R g b i) → v = nI i → kb_E (kz_Model_wish, 35, [some (.inr (some 33)), some (.inl b), some (.inl (nI (2 + g))), some (.inl w), some (.inl v), x], [], R) Q := by
  have eg := kr_g2 hg
  have eg2 : (nI g).toNatClampNeg = g := nI_clamp (by omega)
  intro k
  induction k with
  | zero =>
    intro i w v x hi hw hv
    subst hv; subst hw
    have hi : i = n := by omega
    subst hi
    refine kb_go 40 [35, 94] ?_
    refine And.intro (by rw [eg]; exact kb_in_nI hg (by omega)) ?_
    refine And.intro (fun h => K x) (fun h => ?_)
    have h := of_decide_eq_false h
    rw [eg, eg2, hbd] at h
    exact absurd (Int32.le_refl _) h
  | succ k ih =>
    intro i w v x hi hw hv
    subst hv
    have hx := kr_60 hg i
    have hcl : (nI (60 * g + i)).toNatClampNeg = 60 * g + i := nI_clamp (by omega)
    have hin : kb_in (nI (60 * g + i)) 120 = true := kb_in_nI (by omega) (by omega)
    have hs : kr_la R g b (i + 1) = if R 42 (60 * g + i) = 2 ∧ R 41 (60 * g + i) = b then some i else kr_la R g b i := rfl
    refine kb_go 80 [35, 94] ?_
    refine And.intro (by rw [eg]; exact kb_in_nI hg (by omega)) ?_
    refine And.intro (fun h => ?_) (fun _ => ?_)
    · have h := of_decide_eq_true h
      rw [eg, eg2, hbd, nI_leI (by omega) (by omega)] at h
      omega
    · refine And.intro (by rw [eg, hx]; exact hin) ?_
      refine And.intro (fun h => ?_) (fun h => ?_)
      · have h := of_decide_eq_true h
        rw [eg, hx, hcl] at h
        refine ih (i + 1) _ _ _ (by omega) ?_ (nI_succ i).symm
        rw [hs, if_neg (fun q => h q.1)]
        exact hw
      · have h := Classical.not_not.mp (of_decide_eq_false h)
        rw [eg, hx, hcl] at h
        refine And.intro (by rw [eg, hx]; exact hin) ?_
        refine And.intro (fun h2 => ?_) (fun h2 => ?_)
        · have h2 := of_decide_eq_true h2
          rw [eg, hx, hcl] at h2
          refine ih (i + 1) _ _ _ (by omega) ?_ (nI_succ i).symm
          rw [hs, if_neg (fun q => h2 q.2)]
          exact hw
        · have h2 := Classical.not_not.mp (of_decide_eq_false h2)
          rw [eg, hx, hcl] at h2
          refine ih (i + 1) _ _ _ (by omega) ?_ (nI_succ i).symm
          rw [hs, if_pos ⟨h, h2⟩, eg, hx]
          rfl
set_option maxRecDepth 100000 in
theorem cr_wish {R : kb_M} (hR : kr_ok R) (b : Int32) : kb_E (kb_en kz_Model_wish [.inr (some 33), .inl b] R) (fun q => q = (none, kr_wi R b)) := by
  have hb0 := hR.1 0 (by decide)
  have hb1 := hR.1 1 (by decide)
  have l0 := kr_l_le R 0 b (kr_bd R 0)
  have l1 := kr_l_le R 1 b (kr_bd R 1)
  have fin : ∀ g, g < 2 → g = kr_ri R b → kr_e R b < 0 → ∀ x, kb_E (kz_Model_wish, 94, [some (.inr (some 33)), some (.inl b), some (.inl (nI (2 + g))), some (.inl (kr_lv g (kr_la R g b (kr_bd R g)))), some (.inl (nI (kr_bd R g))), x], [], R) (fun q => q = (none, kr_wi R b)) := by
    intro g hg he hneg x
    have hw : kr_wi R b = match kr_la R g b (kr_bd R g) with
      | none => R
      | some t => kr_mk R (60 * g + t) := by unfold kr_wi; rw [if_pos hneg, ← he]
    rw [hw]
    cases hl : kr_la R g b (kr_bd R g) with
    | none =>
      refine kb_go 20 [] ?_
      refine And.intro (fun _ => And.intro rfl rfl) (fun h => absurd (show decide ((-1 : Int32) < 0) = false from h) (by decide))
    | some t =>
      have ht := (kr_la_lt hl).1
      have hb := (hR.1 g hg).2
      refine kb_go 20 [] ?_
      refine And.intro (fun h => absurd (of_decide_eq_true h) (nI_pos (by omega))) (fun _ => ?_)
      exact kb_E_to (cr_mark R (j := 60 * g + t) (by omega)) (And.intro rfl rfl)
  refine kb_go 60 [35] ?_
  refine kb_E_to (cr_earliest hR b) ?_
  refine And.intro (fun h => ?_) (fun h => ?_)
  · have h := of_decide_eq_true h
    refine kb_E_to (cr_liveOf hR (g := 1) (by decide) b) ?_
    refine kb_E_to (cr_liveOf hR (g := 0) (by decide) b) ?_
    refine And.intro (fun h2 => ?_) (fun h2 => ?_)
    · have h2 := of_decide_eq_true h2
      rw [nI_leI (by omega) (by omega)] at h2
      have hg : 0 = kr_ri R b := by unfold kr_ri; rw [if_neg (by omega)]
      exact cr_wishG (g := 0) (n := kr_bd R 0) (by decide) hb0.2 hb0.1 (fin 0 (by decide) hg h) (kr_bd R 0) 0 _ _ _ (by omega) rfl rfl
    · have h2 := of_decide_eq_false h2
      rw [nI_leI (by omega) (by omega)] at h2
      have hg : 1 = kr_ri R b := by unfold kr_ri; rw [if_pos (by omega)]
      exact cr_wishG (g := 1) (n := kr_bd R 1) (by decide) hb1.2 hb1.1 (fin 1 (by decide) hg h) (kr_bd R 1) 0 _ _ _ (by omega) rfl rfl
  · have h := of_decide_eq_false h
    refine And.intro rfl ?_
    unfold kr_wi
    rw [if_neg h]
theorem kr_ok_eq {R S : kb_M} (hR : kr_ok R) (h35 : S 35 = R 35) (h37 : S 37 = R 37) (h38 : S 38 = R 38) (h39 : S 39 = R 39) (h41 : S 41 = R 41) : kr_ok S := by
  unfold kr_ok kr_bd kr_sz kr_fr at hR ⊢
  rw [h35, h37, h38, h39, h41]
  exact hR
theorem kr_wi_ne (R : kb_M) (b : Int32) {k : Nat} (h1 : k ≠ 42) (h2 : k ≠ 43) : kr_wi R b k = R k := by
  unfold kr_wi
  split
  next =>
    cases kr_la R (kr_ri R b) b (kr_bd R (kr_ri R b)) with
    | none => rfl
    | some t => show kr_mk R _ k = R k; unfold kr_mk; rw [kb_up_ne _ _ _ h2, kb_up_ne _ _ _ h1]
  next => rfl
theorem kr_wi_ok {R : kb_M} (hR : kr_ok R) (b : Int32) : kr_ok (kr_wi R b) := kr_ok_eq hR (kr_wi_ne R b (by decide) (by decide)) (kr_wi_ne R b (by decide) (by decide)) (kr_wi_ne R b (by decide) (by decide)) (kr_wi_ne R b (by decide) (by decide)) (kr_wi_ne R b (by decide) (by decide))
def kr_cm (R : kb_M) (b : Nat) : kb_M := if kr_f R b = 0 then kr_mv (kr_wi R (nI b)) (kr_e (kr_wi R (nI b)) (nI b)) else R
set_option maxRecDepth 100000 in
theorem cr_claim {R : kb_M} (hR : kr_ok R) {b : Nat} (hb : b < 2) : kb_E (kb_en kz_Model_claim [.inr (some 33), .inl (nI b)] R) (fun q => q = (none, kr_cm R b)) := by
  refine kb_go 40 [] ?_
  refine kb_E_to (cr_free hR hb) ?_
  unfold kr_cm
  refine And.intro (fun h => ?_) (fun h => ?_)
  · have h := of_decide_eq_true h
    rw [if_neg h]
    exact And.intro rfl rfl
  · have h := Classical.not_not.mp (of_decide_eq_false h)
    rw [if_pos h]
    refine kb_E_to (cr_wish hR (nI b)) ?_
    refine kb_E_to (cr_earliest (kr_wi_ok hR (nI b)) (nI b)) ?_
    refine kb_E_to (cr_moveTo (kr_wi_ok hR (nI b)) _) ?_
    exact And.intro rfl rfl
