/-! the reference: files and what lies in frames -/
set_option maxRecDepth 100000 in
theorem cr_noFile (R : kb_M) (app name : Int32) : kb_E (kb_en kz_Model_noFile [.inr (some 33), .inl app, .inl name] R) (fun q => q = (some (.inl (if (0 ≤ app ∧ app ≤ 1) ∧ 0 ≤ name ∧ name ≤ 5 then 0 else 1)), R)) := by
  have h1 := cr_within R app 0 1
  have h2 := cr_within R name 0 5
  refine kb_go 20 [] ?_
  refine kb_E_to h1 ?_
  by_cases ha : 0 ≤ app ∧ app ≤ 1
  · rw [if_pos ha]
    refine And.intro (fun h => absurd h (by decide)) (fun _ => ?_)
    refine kb_E_to h2 ?_
    by_cases hn : 0 ≤ name ∧ name ≤ 5
    · rw [if_pos hn, if_pos ⟨ha, hn⟩]
      exact And.intro (fun _ => And.intro rfl rfl) (fun h => absurd h (by decide))
    · rw [if_neg hn, if_neg (fun q => hn q.2)]
      exact And.intro (fun h => absurd h (by decide)) (fun _ => And.intro rfl rfl)
  · rw [if_neg ha, if_neg (fun q => ha q.1)]
    exact And.intro (fun _ => And.intro rfl rfl) (fun h => absurd h (by decide))
theorem kr_in (v : Int32) {n : Nat} (hn : n < 2 ^ 31) (h : 0 ≤ v ∧ v ≤ nI n) : ∃ k : Nat, k ≤ n ∧ v = nI k := by
  have h1 : ¬ v < 0 := Int32.not_lt.mpr h.1
  obtain ⟨k, hk, rfl⟩ := nI_of h1
  exact ⟨k, (nI_leI hk hn).mp h.2, rfl⟩
theorem kr_out {k n : Nat} (hk : k ≤ n) (hn : n < 2 ^ 31) : 0 ≤ nI k ∧ nI k ≤ nI n := ⟨nI_pos' (by omega), nI_le hk hn⟩
set_option maxRecDepth 100000 in
theorem cr_noWord {R : kb_M} {a f : Nat} (ha : a < 2) (hf : f < 6) (i : Int32) : kb_E (kb_en kz_Model_noWord [.inr (some 33), .inl (nI a), .inl (nI f), .inl i] R) (fun q => q = (some (.inl (if 0 ≤ i ∧ i ≤ R 35 (6 * a + f) - 1 then 0 else 1)), R)) := by
  have h1 := cr_noFile R (nI a) (nI f)
  rw [if_pos ⟨kr_out (n := 1) (by omega) (by omega), kr_out (n := 5) (by omega) (by omega)⟩] at h1
  have h2 := cr_within R i 0 (R 35 (6 * a + f) - 1)
  have hx := kr_6 (a := a) (by omega) f
  have hcl : (nI (6 * a + f)).toNatClampNeg = 6 * a + f := nI_clamp (by omega)
  refine kb_go 30 [] ?_
  refine kb_E_to h1 ?_
  refine And.intro (fun h => absurd h (by decide)) (fun _ => ?_)
  refine And.intro (by rw [hx]; exact kb_in_nI (by omega) (by omega)) ?_
  rw [← hcl, ← hx] at h2
  refine kb_E_to h2 ?_
  rw [hx, hcl]
  by_cases hn : 0 ≤ i ∧ i ≤ R 35 (6 * a + f) - 1
  · rw [if_pos hn, if_pos hn]
    exact And.intro (fun _ => And.intro rfl rfl) (fun h => absurd h (by decide))
  · rw [if_neg hn, if_neg hn]
    exact And.intro (fun h => absurd h (by decide)) (fun _ => And.intro rfl rfl)
/-- no such application or file: refused -/
theorem cr_noWord0 {R : kb_M} {app name : Int32} (h0 : ¬ ((0 ≤ app ∧ app ≤ 1) ∧ 0 ≤ name ∧ name ≤ 5)) (i : Int32) : kb_E (kb_en kz_Model_noWord [.inr (some 33), .inl app, .inl name, .inl i] R) (fun q => q = (some (.inl 1), R)) := by
  have h1 := cr_noFile R app name
  rw [if_neg h0] at h1
  refine kb_go 30 [] ?_
  refine kb_E_to h1 ?_
  exact And.intro (fun _ => And.intro rfl rfl) (fun h => absurd h (by decide))
/-- where among the first n of application a the part p lies -/
def kr_fi (R : kb_M) (a : Nat) (p : Int32) : Nat → Option Nat
  | 0 => none
  | n + 1 => if R 36 (3 * a + n) = p then some n else kr_fi R a p n
def kr_fv (a : Nat) (o : Option Nat) : Int32 := match o with
  | none => -1
  | some j => nI (3 * a + j)
theorem kr_fi_lt {R : kb_M} {a : Nat} {p : Int32} {j : Nat} : ∀ {n : Nat}, kr_fi R a p n = some j → j < n ∧ R 36 (3 * a + j) = p := by
  intro n
  induction n with
  | zero => intro h; cases h
  | succ n ih =>
    intro h
    unfold kr_fi at h
    split at h
    next hc => cases h; exact ⟨by omega, hc⟩
    next => exact ⟨by have := (ih h).1; omega, (ih h).2⟩
theorem kr_fi_no {R : kb_M} {a : Nat} {p : Int32} : ∀ {n : Nat}, kr_fi R a p n = none → ∀ j, j < n → R 36 (3 * a + j) ≠ p := by
  intro n
  induction n with
  | zero => intro _ j hj; omega
  | succ n ih =>
    intro h j hj
    unfold kr_fi at h
    split at h
    next => cases h
    next hc =>
      by_cases hjn : j = n
      · rw [hjn]; exact hc
      · exact ih h j (by omega)
theorem kr_3 (a : Nat) : Int32.ofInt 3 * nI a = nI (3 * a) := by rw [show Int32.ofInt 3 = nI 3 from rfl, pk_mul]
set_option maxRecDepth 100000 in
theorem cr_find {R : kb_M} (hR : kr_ok R) {a : Nat} (ha : a < 2) (p : Int32) : kb_E (kb_en kz_Model_find [.inr (some 33), .inl (nI a), .inl p] R) (fun q => q = (some (.inl (kr_fv a (kr_fi R a p (kr_fr R a)))), R)) := by
  obtain ⟨hfr, hle⟩ := hR.2.2.1 a ha
  have ea : (nI a).toNatClampNeg = a := nI_clamp (by omega)
  have loop : ∀ (k i : Nat) (w v : Int32), i + k = kr_fr R a → w = kr_fv a (kr_fi R a p i) → v = nI (3 * a + i) → kb_E (kz_Model_find, 7, [some (.inr (some 33)), some (.inl (nI a)), some (.inl p), some (.inl w), some (.inl v)], [], R) (fun q => q = (some (.inl (kr_fv a (kr_fi R a p (kr_fr R a)))), R)) := by
    intro k
    induction k with
    | zero =>
      intro i w v hi hw hv
      subst hv; subst hw
      refine kb_go 40 [7] ?_
      refine And.intro (kb_in_nI ha (by omega)) ?_
      refine And.intro (fun h => ?_) (fun h => ?_)
      · rw [show kr_fr R a = i by omega]
        exact And.intro rfl rfl
      · have h := of_decide_eq_false h
        rw [ea, hfr, kr_3, nI_add, show kr_fr R a = i by omega] at h
        exact absurd (Int32.le_refl _) h
    | succ k ih =>
      intro i w v hi hw hv
      subst hv
      have hcl : (nI (3 * a + i)).toNatClampNeg = 3 * a + i := nI_clamp (by omega)
      have hs : kr_fi R a p (i + 1) = if R 36 (3 * a + i) = p then some i else kr_fi R a p i := rfl
      refine kb_go 40 [7] ?_
      refine And.intro (kb_in_nI ha (by omega)) ?_
      refine And.intro (fun h => ?_) (fun _ => ?_)
      · have h := of_decide_eq_true h
        rw [ea, hfr, kr_3, nI_add, nI_leI (by omega) (by omega)] at h
        omega
      · refine And.intro (kb_in_nI (by omega) (by omega)) ?_
        refine And.intro (fun h => ?_) (fun h => ?_)
        · have h := of_decide_eq_true h
          rw [hcl] at h
          refine ih (i + 1) _ _ (by omega) ?_ (nI_succ _).symm
          rw [hs, if_neg h]
          exact hw
        · have h := Classical.not_not.mp (of_decide_eq_false h)
          rw [hcl] at h
          refine ih (i + 1) _ _ (by omega) ?_ (nI_succ _).symm
          rw [hs, if_pos h]
          rfl
  exact kb_go 20 [7] (loop (kr_fr R a) 0 _ _ (by omega) rfl (kr_3 a))
/-- the places from j on move down, up to i -/
def kr_ri1 (R : kb_M) (a j i : Nat) : kb_M := kb_ro (kb_ro R 36 (fun q => if 3 * a + j ≤ q ∧ q < 3 * a + i then R 36 (q + 1) else R 36 q)) 37 (fun q => if 3 * a + j ≤ q ∧ q < 3 * a + i then R 37 (q + 1) else R 37 q)
def kr_rm (R : kb_M) (a j : Nat) : kb_M := kb_up (kr_ri1 R a j (kr_fr R a - 1)) 38 a (nI (kr_fr R a - 1))
theorem kr_ri1_ne (R : kb_M) (a j i : Nat) {k : Nat} (h1 : k ≠ 36) (h2 : k ≠ 37) : kr_ri1 R a j i k = R k := by
  unfold kr_ri1
  rw [kb_ro_ne _ _ h2, kb_ro_ne _ _ h1]
theorem kr_ri1_36 (R : kb_M) (a j i q : Nat) : kr_ri1 R a j i 36 q = if 3 * a + j ≤ q ∧ q < 3 * a + i then R 36 (q + 1) else R 36 q := by
  unfold kr_ri1
  rw [kb_ro_ne _ _ (by decide), kb_ro_at]
theorem kr_ri1_37 (R : kb_M) (a j i q : Nat) : kr_ri1 R a j i 37 q = if 3 * a + j ≤ q ∧ q < 3 * a + i then R 37 (q + 1) else R 37 q := by
  unfold kr_ri1
  rw [kb_ro_at]
theorem kr_ri1_0 (R : kb_M) (a j : Nat) : kr_ri1 R a j j = R := by
  funext k q
  by_cases h1 : k = 36
  · subst h1; rw [kr_ri1_36, if_neg (by omega)]
  · by_cases h2 : k = 37
    · subst h2; rw [kr_ri1_37, if_neg (by omega)]
    · rw [kr_ri1_ne _ _ _ _ h1 h2]
theorem kr_ri1_s {R : kb_M} {a j i : Nat} (hj : j ≤ i) : kb_up (kb_up (kr_ri1 R a j i) 36 (3 * a + i) (R 36 (3 * a + i + 1))) 37 (3 * a + i) (R 37 (3 * a + i + 1)) = kr_ri1 R a j (i + 1) := by
  funext k q
  by_cases h2 : k = 37
  · subst h2
    rw [kb_up_at, kb_up_ne _ _ _ (by decide), kr_ri1_37]
    unfold upd
    by_cases hq : q = 3 * a + i
    · rw [if_pos hq, hq, if_pos (by omega)]
    · rw [if_neg hq, kr_ri1_37]
      by_cases h3 : 3 * a + j ≤ q ∧ q < 3 * a + i
      · rw [if_pos h3, if_pos (by omega)]
      · rw [if_neg h3, if_neg (by omega)]
  · rw [kb_up_ne _ _ _ h2]
    by_cases h1 : k = 36
    · subst h1
      rw [kb_up_at, kr_ri1_36]
      unfold upd
      by_cases hq : q = 3 * a + i
      · rw [if_pos hq, hq, if_pos (by omega)]
      · rw [if_neg hq, kr_ri1_36]
        by_cases h3 : 3 * a + j ≤ q ∧ q < 3 * a + i
        · rw [if_pos h3, if_pos (by omega)]
        · rw [if_neg h3, if_neg (by omega)]
    · rw [kb_up_ne _ _ _ h1, kr_ri1_ne _ _ _ _ h1 h2, kr_ri1_ne _ _ _ _ h1 h2]
theorem kr_01 {v : Int32} (h : v = 0 ∨ v = 1) : (v == 0 || v == 1) = true := by
  rcases h with rfl | rfl <;> rfl
set_option maxRecDepth 100000 in
theorem cr_remove {R : kb_M} (hR : kr_ok R) {a j : Nat} (ha : a < 2) (hj : j < kr_fr R a) : kb_E (kb_en kz_Model_remove [.inr (some 33), .inl (nI a), .inl (nI (3 * a + j))] R) (fun q => q = (none, kr_rm R a j)) := by
  obtain ⟨hfr, hle⟩ := hR.2.2.1 a ha
  have ea : (nI a).toNatClampNeg = a := nI_clamp (by omega)
  have e38 : ∀ i, (kr_ri1 R a j i) 38 = R 38 := fun i => kr_ri1_ne _ _ _ _ (by decide) (by decide)
  have e1 : nI (kr_fr R a) - Int32.ofInt 1 = nI (kr_fr R a - 1) := by rw [show Int32.ofInt 1 = nI 1 from rfl, pk_sub (by omega)]
  have e2 : Int32.ofInt 3 * nI a + nI (kr_fr R a) - Int32.ofInt 1 = nI (3 * a + (kr_fr R a - 1)) := by rw [kr_3, nI_add, show Int32.ofInt 1 = nI 1 from rfl, pk_sub (by omega)]; congr 1; omega
  have loop : ∀ (k i : Nat) (v : Int32), i + k = kr_fr R a - 1 → j ≤ i → v = nI (3 * a + i) → kb_E (kz_Model_remove, 2, [some (.inr (some 33)), some (.inl (nI a)), some (.inl (nI (3 * a + j))), some (.inl v)], [], kr_ri1 R a j i) (fun q => q = (none, kr_rm R a j)) := by
    intro k
    induction k with
    | zero =>
      intro i v hi hji hv
      subst hv
      refine kb_go 60 [2] ?_
      refine And.intro (kb_in_nI ha (by omega)) ?_
      refine And.intro (fun h => ?_) (fun h => ?_)
      · refine And.intro (kb_in_nI ha (by omega)) (And.intro (kb_in_nI ha (by omega)) (And.intro rfl ?_))
        rw [ea, e38, hfr, e1, show i = kr_fr R a - 1 by omega]
        rfl
      · have h := of_decide_eq_false h
        rw [ea, e38, hfr, e2, show i = kr_fr R a - 1 by omega] at h
        exact absurd (Int32.le_refl _) h
    | succ k ih =>
      intro i v hi hji hv
      subst hv
      have hcl : (nI (3 * a + i)).toNatClampNeg = 3 * a + i := nI_clamp (by omega)
      have hcl1 : (nI (3 * a + i) + Int32.ofInt 1).toNatClampNeg = 3 * a + i + 1 := by rw [show Int32.ofInt 1 = nI 1 from rfl, nI_add, nI_clamp (by omega)]
      have hin : kb_in (nI (3 * a + i)) 6 = true := kb_in_nI (by omega) (by omega)
      have hin1 : kb_in (nI (3 * a + i) + Int32.ofInt 1) 6 = true := by rw [show Int32.ofInt 1 = nI 1 from rfl, nI_add]; exact kb_in_nI (by omega) (by omega)
      have r36 : kr_ri1 R a j i 36 (3 * a + i + 1) = R 36 (3 * a + i + 1) := by rw [kr_ri1_36, if_neg (by omega)]
      have r37 : kr_ri1 R a j i 37 (3 * a + i + 1) = R 37 (3 * a + i + 1) := by rw [kr_ri1_37, if_neg (by omega)]
      refine kb_go 60 [2] ?_
      refine And.intro (kb_in_nI ha (by omega)) ?_
      refine And.intro (fun h => ?_) (fun _ => ?_)
      · have h := of_decide_eq_true h
        rw [ea, e38, hfr, e2, nI_leI (by omega) (by omega)] at h
        omega
      · refine And.intro hin1 (And.intro hin (And.intro hin1 (And.intro ?_ ?_)))
        · rw [hin, hcl, hcl1, kb_up_ne _ _ _ (by decide), r37, kr_01 (hR.2.2.2.2 _ (by omega))]
          rfl
        · have h3 := ih (i + 1) _ (by omega) (by omega) (nI_succ (3 * a + i)).symm
          rw [← kr_ri1_s hji, ← r36] at h3
          have e5 : (kb_up (kr_ri1 R a j i) 36 (3 * a + i) ((kr_ri1 R a j i) 36 (3 * a + i + 1))) 37 (3 * a + i + 1) = R 37 (3 * a + i + 1) := by rw [kb_up_ne _ _ _ (by decide), r37]
          rw [← e5] at h3
          show kb_E (_, _, _, _, kb_up (kb_up (kr_ri1 R a j i) 36 (nI (3 * a + i)).toNatClampNeg ((kr_ri1 R a j i) 36 (nI (3 * a + i) + Int32.ofInt 1).toNatClampNeg)) 37 (nI (3 * a + i)).toNatClampNeg ((kb_up (kr_ri1 R a j i) 36 (nI (3 * a + i)).toNatClampNeg ((kr_ri1 R a j i) 36 (nI (3 * a + i) + Int32.ofInt 1).toNatClampNeg)) 37 (nI (3 * a + i) + Int32.ofInt 1).toNatClampNeg)) _
          rw [hcl, hcl1]
          exact h3
  have h0 := loop (kr_fr R a - 1 - j) j _ (by omega) (Nat.le_refl _) rfl
  rw [kr_ri1_0] at h0
  exact kb_go 20 [2] h0
/-- a part comes last -/
def kr_ad (R : kb_M) (a : Nat) (p d : Int32) : kb_M := kb_up (kb_up (kb_up R 36 (3 * a + kr_fr R a) p) 37 (3 * a + kr_fr R a) d) 38 a (R 38 a + 1)
set_option maxRecDepth 100000 in
theorem cr_add {R : kb_M} (hR : kr_ok R) {a : Nat} (ha : a < 2) (hn : kr_fr R a < 3) (p : Int32) {d : Int32} (hd : d = 0 ∨ d = 1) : kb_E (kb_en kz_Model_add [.inr (some 33), .inl (nI a), .inl p, .inl d] R) (fun q => q = (none, kr_ad R a p d)) := by
  obtain ⟨hfr, hle⟩ := hR.2.2.1 a ha
  have ea : (nI a).toNatClampNeg = a := nI_clamp (by omega)
  have hx : Int32.ofInt 3 * nI a + R 38 (nI a).toNatClampNeg = nI (3 * a + kr_fr R a) := by rw [ea, hfr, kr_3, nI_add]
  have hcl : (nI (3 * a + kr_fr R a)).toNatClampNeg = 3 * a + kr_fr R a := nI_clamp (by omega)
  refine kb_go 60 [] ?_
  refine And.intro (kb_in_nI ha (by omega)) ?_
  refine And.intro (by rw [hx]; exact kb_in_nI (by omega) (by omega)) ?_
  refine And.intro (by rw [hx, kb_in_nI (by omega) (by omega), kr_01 hd]; rfl) ?_
  refine And.intro (kb_in_nI ha (by omega)) (And.intro (kb_in_nI ha (by omega)) (And.intro rfl ?_))
  rw [hx, hcl, ea, kb_up_ne _ _ _ (by decide), kb_up_ne _ _ _ (by decide)]
  rfl
/-- place j's words go to their block, if changed -/
def kr_so (R : kb_M) (j : Nat) : kb_M := kb_up (kb_up R 33 1 (if R 37 j = 0 then R 33 1 else R 33 1 + 1)) 37 j 0
set_option maxRecDepth 100000 in
theorem cr_storeAt (R : kb_M) {j : Nat} (hj : j < 6) : kb_E (kb_en kz_Model_storeAt [.inr (some 33), .inl (nI j)] R) (fun q => q = (none, kr_so R j)) := by
  have hcl : (nI j).toNatClampNeg = j := nI_clamp (by omega)
  refine kb_go 60 [] ?_
  refine And.intro (kb_in_nI hj (by omega)) ?_
  unfold kr_so
  refine And.intro (fun h => ?_) (fun h => ?_)
  · have h := of_decide_eq_true h
    rw [hcl] at h
    rw [if_pos h]
    refine And.intro (by rw [kb_in_nI hj (by omega)]; rfl) (And.intro rfl ?_)
    rw [hcl]
    rfl
  · have h := of_decide_eq_false h
    rw [hcl] at h
    rw [if_neg h]
    refine And.intro (by rw [kb_in_nI hj (by omega)]; rfl) (And.intro rfl ?_)
    rw [hcl]
    rfl
theorem kr_bool_up {R : kb_M} (h : ∀ j, j < 6 → R 37 j = 0 ∨ R 37 j = 1) {k : Nat} {d : Int32} (hd : d = 0 ∨ d = 1) : ∀ j, j < 6 → upd (R 37) k d j = 0 ∨ upd (R 37) k d j = 1 := by
  intro j hj
  unfold upd
  by_cases hk : j = k
  · rw [if_pos hk]; exact hd
  · rw [if_neg hk]; exact h j hj
theorem kr_so_ok {R : kb_M} (hR : kr_ok R) (j : Nat) : kr_ok (kr_so R j) := by
  obtain ⟨h1, h2, h3, h4, h5⟩ := hR
  unfold kr_ok kr_bd kr_sz kr_fr kr_so
  rw [kb_up_ne _ _ _ (show (39 : Nat) ≠ 37 by decide), kb_up_ne _ _ _ (show (39 : Nat) ≠ 33 by decide), kb_up_ne _ _ _ (show (35 : Nat) ≠ 37 by decide), kb_up_ne _ _ _ (show (35 : Nat) ≠ 33 by decide), kb_up_ne _ _ _ (show (38 : Nat) ≠ 37 by decide), kb_up_ne _ _ _ (show (38 : Nat) ≠ 33 by decide), kb_up_ne _ _ _ (show (41 : Nat) ≠ 37 by decide), kb_up_ne _ _ _ (show (41 : Nat) ≠ 33 by decide), kb_up_at, kb_up_ne _ _ _ (show (37 : Nat) ≠ 33 by decide)]
  exact ⟨h1, h2, h3, h4, kr_bool_up h5 (Or.inl rfl)⟩
theorem kr_fr_up {R : kb_M} {a : Nat} {m : Nat} (hm : m ≤ 3) (h : ∀ a, a < 2 → R 38 a = nI (kr_fr R a) ∧ kr_fr R a ≤ 3) : ∀ c, c < 2 → upd (R 38) a (nI m) c = nI (upd (R 38) a (nI m) c).toNatClampNeg ∧ (upd (R 38) a (nI m) c).toNatClampNeg ≤ 3 := by
  intro c hc
  unfold upd
  by_cases hk : c = a
  · rw [if_pos hk, nI_clamp (by omega)]; exact ⟨rfl, hm⟩
  · rw [if_neg hk]; exact h c hc
theorem kr_rm_ok {R : kb_M} (hR : kr_ok R) {a j : Nat} (ha : a < 2) (hj : j < kr_fr R a) : kr_ok (kr_rm R a j) ∧ kr_fr (kr_rm R a j) a = kr_fr R a - 1 := by
  obtain ⟨h1, h2, h3, h4, h5⟩ := hR
  have hle := (h3 a ha).2
  have e38 : (kr_rm R a j) 38 = upd (R 38) a (nI (kr_fr R a - 1)) := by unfold kr_rm; rw [kb_up_at, kr_ri1_ne _ _ _ _ (by decide) (by decide)]
  have en : ∀ k, k ≠ 36 → k ≠ 37 → k ≠ 38 → (kr_rm R a j) k = R k := fun k g1 g2 g3 => by unfold kr_rm; rw [kb_up_ne _ _ _ g3, kr_ri1_ne _ _ _ _ g1 g2]
  have e37 : ∀ q, (kr_rm R a j) 37 q = if 3 * a + j ≤ q ∧ q < 3 * a + (kr_fr R a - 1) then R 37 (q + 1) else R 37 q := fun q => by unfold kr_rm; rw [kb_up_ne _ _ _ (by decide), kr_ri1_37]
  refine ⟨?_, ?_⟩
  · unfold kr_ok kr_bd kr_sz
    rw [en 39 (by decide) (by decide) (by decide), en 35 (by decide) (by decide) (by decide), en 41 (by decide) (by decide) (by decide)]
    refine ⟨h1, h2, ?_, h4, fun q hq => ?_⟩
    · unfold kr_fr
      rw [e38]
      exact kr_fr_up (by omega) h3
    · rw [e37]
      split
      next hc => exact h5 _ (by omega)
      next => exact h5 _ hq
  · unfold kr_fr
    rw [e38, show upd (R 38) a (nI (kr_fr R a - 1)) a = nI (kr_fr R a - 1) from pk_us, nI_clamp (by omega)]
theorem kr_ad_ok {R : kb_M} (hR : kr_ok R) {a : Nat} (ha : a < 2) (hn : kr_fr R a < 3) {p d : Int32} (hd : d = 0 ∨ d = 1) : kr_ok (kr_ad R a p d) ∧ kr_fr (kr_ad R a p d) a = kr_fr R a + 1 := by
  obtain ⟨h1, h2, h3, h4, h5⟩ := hR
  have e38 : (kr_ad R a p d) 38 = upd (R 38) a (nI (kr_fr R a + 1)) := by unfold kr_ad; rw [kb_up_at, kb_up_ne _ _ _ (by decide), kb_up_ne _ _ _ (by decide), nI_succ, ← (h3 a ha).1]
  have en : ∀ k, k ≠ 36 → k ≠ 37 → k ≠ 38 → (kr_ad R a p d) k = R k := fun k g1 g2 g3 => by unfold kr_ad; rw [kb_up_ne _ _ _ g3, kb_up_ne _ _ _ g2, kb_up_ne _ _ _ g1]
  have e37 : (kr_ad R a p d) 37 = upd (R 37) (3 * a + kr_fr R a) d := by unfold kr_ad; rw [kb_up_ne _ _ _ (by decide), kb_up_at, kb_up_ne _ _ _ (by decide)]
  refine ⟨?_, ?_⟩
  · unfold kr_ok kr_bd kr_sz
    rw [en 39 (by decide) (by decide) (by decide), en 35 (by decide) (by decide) (by decide), en 41 (by decide) (by decide) (by decide)]
    refine ⟨h1, h2, ?_, h4, ?_⟩
    · unfold kr_fr
      rw [e38]
      exact kr_fr_up (by omega) h3
    · rw [e37]
      exact kr_bool_up h5 hd
  · unfold kr_fr
    rw [e38, show upd (R 38) a (nI (kr_fr R a + 1)) a = nI (kr_fr R a + 1) from pk_us, nI_clamp (by omega)]
theorem kr_mv_ne (R : kb_M) (t : Int32) {k : Nat} (h0 : k ≠ 33) (h1 : k ≠ 40) (h2 : k ≠ 42) : kr_mv R t k = R k := by
  unfold kr_mv kr_m0
  rw [kr_mg_ne _ _ _ _ h1 h2, kr_mg_ne _ _ _ _ h1 h2, kb_up_ne _ _ _ h0]
theorem kr_cm_ne (R : kb_M) (b : Nat) {k : Nat} (h0 : k ≠ 33) (h1 : k ≠ 40) (h2 : k ≠ 42) (h3 : k ≠ 43) : kr_cm R b k = R k := by
  unfold kr_cm
  split
  next => rw [kr_mv_ne _ _ h0 h1 h2, kr_wi_ne _ _ h2 h3]
  next => rfl
theorem kr_cm_ok {R : kb_M} (hR : kr_ok R) (b : Nat) : kr_ok (kr_cm R b) := kr_ok_eq hR (kr_cm_ne R b (by decide) (by decide) (by decide) (by decide)) (kr_cm_ne R b (by decide) (by decide) (by decide) (by decide)) (kr_cm_ne R b (by decide) (by decide) (by decide) (by decide)) (kr_cm_ne R b (by decide) (by decide) (by decide) (by decide)) (kr_cm_ne R b (by decide) (by decide) (by decide) (by decide))
/-- part p of application a is used -/
def kr_o1 (R : kb_M) (a : Nat) : kb_M := if kr_fr R a = 3 then kr_rm (kr_so R (3 * a)) a 0 else kr_cm R 0
def kr_o2 (R : kb_M) (a : Nat) : kb_M := kb_up (kr_o1 R a) 33 2 ((kr_o1 R a) 33 2 + 1)
def kr_op (R : kb_M) (a p : Nat) : kb_M := match kr_fi R a (nI p) (kr_fr R a) with
  | some j => kr_ad (kr_rm R a j) a (nI p) (R 37 (3 * a + j))
  | none => kr_ad (kr_o2 R a) a (nI p) 0
theorem kr_so_fr (R : kb_M) (j a : Nat) : kr_fr (kr_so R j) a = kr_fr R a := by
  unfold kr_fr kr_so
  rw [kb_up_ne _ _ _ (by decide), kb_up_ne _ _ _ (by decide)]
theorem kr_o2_ok {R : kb_M} (hR : kr_ok R) {a : Nat} (ha : a < 2) : kr_ok (kr_o2 R a) ∧ kr_fr (kr_o2 R a) a < 3 := by
  have hle := (hR.2.2.1 a ha).2
  have h1 : kr_ok (kr_o1 R a) ∧ kr_fr (kr_o1 R a) a < 3 := by
    unfold kr_o1
    by_cases h3 : kr_fr R a = 3
    · rw [if_pos h3]
      have h := kr_rm_ok (kr_so_ok hR (3 * a)) (j := 0) ha (by rw [kr_so_fr]; omega)
      exact ⟨h.1, by rw [h.2, kr_so_fr]; omega⟩
    · rw [if_neg h3]
      refine ⟨kr_cm_ok hR 0, ?_⟩
      unfold kr_fr
      rw [kr_cm_ne R 0 (by decide) (by decide) (by decide) (by decide)]
      have : kr_fr R a < 3 := by omega
      exact this
  refine ⟨kr_ok_eq h1.1 ?_ ?_ ?_ ?_ ?_, ?_⟩
  · exact kb_up_ne _ _ _ (by decide)
  · exact kb_up_ne _ _ _ (by decide)
  · exact kb_up_ne _ _ _ (by decide)
  · exact kb_up_ne _ _ _ (by decide)
  · exact kb_up_ne _ _ _ (by decide)
  · have h2 := h1.2
    unfold kr_fr kr_o2 at *
    rw [kb_up_ne _ _ _ (by decide)]
    exact h2
theorem kr_op_ok {R : kb_M} (hR : kr_ok R) {a : Nat} (ha : a < 2) (p : Nat) : kr_ok (kr_op R a p) ∧ 0 < kr_fr (kr_op R a p) a := by
  unfold kr_op
  cases hf : kr_fi R a (nI p) (kr_fr R a) with
  | none =>
    obtain ⟨h1, h2⟩ := kr_o2_ok hR ha
    have h := kr_ad_ok h1 ha h2 (p := nI p) (d := 0) (Or.inl rfl)
    exact ⟨h.1, by show 0 < kr_fr (kr_ad _ a _ _) a; rw [h.2]; omega⟩
  | some j =>
    have hj := (kr_fi_lt hf).1
    have hle := (hR.2.2.1 a ha).2
    obtain ⟨h1, h2⟩ := kr_rm_ok hR ha hj
    have h := kr_ad_ok h1 ha (by omega) (p := nI p) (hR.2.2.2.2 (3 * a + j) (by omega))
    exact ⟨h.1, by show 0 < kr_fr (kr_ad _ a _ _) a; rw [h.2]; omega⟩
set_option maxRecDepth 100000 in
theorem cr_open {R : kb_M} (hR : kr_ok R) {a f i : Nat} (ha : a < 2) (hf : f < 6) (hi : i < 24) : kb_E (kb_en kz_Model_open [.inr (some 33), .inl (nI a), .inl (nI f), .inl (nI i)] R) (fun q => q = (none, kr_op R a (6 * f + i / 4))) := by
  have hle := (hR.2.2.1 a ha).2
  have ea : (nI a).toNatClampNeg = a := nI_clamp (by omega)
  have hp : (Int8.ofInt 6).toInt32 * nI f + nI i / Int32.ofInt 4 = nI (6 * f + i / 4) := by rw [show Int32.ofInt 4 = nI 4 from rfl, pk_div (by omega) (by omega) (by omega), kr_6 hf]
  have hfd := cr_find hR ha (nI (6 * f + i / 4))
  refine kb_go 80 [] ?_
  refine And.intro rfl ?_
  rw [← hp] at hfd
  refine kb_E_to hfd ?_
  rw [hp]
  unfold kr_op
  cases hl : kr_fi R a (nI (6 * f + i / 4)) (kr_fr R a) with
  | some j =>
    have hj := (kr_fi_lt hl).1
    have hcl : (nI (3 * a + j)).toNatClampNeg = 3 * a + j := nI_clamp (by omega)
    obtain ⟨o1, o2⟩ := kr_rm_ok hR ha hj
    refine And.intro (fun h => absurd (of_decide_eq_true h) (nI_pos (by omega))) (fun _ => ?_)
    refine And.intro (kb_in_nI (by omega) (by omega)) ?_
    refine kb_E_to (cr_remove hR ha hj) ?_
    have h4 := cr_add o1 ha (by omega) (nI (6 * f + i / 4)) (hR.2.2.2.2 (3 * a + j) (by omega))
    rw [← hcl] at h4
    refine kb_E_to h4 ?_
    rw [hcl]
    exact And.intro rfl rfl
  | none =>
    refine And.intro (fun _ => ?_) (fun h => absurd (show decide ((-1 : Int32) < 0) = false from h) (by decide))
    refine And.intro (kb_in_nI ha (by omega)) ?_
    obtain ⟨o1, o2⟩ := kr_o2_ok hR ha
    have h4 := cr_add o1 ha o2 (nI (6 * f + i / 4)) (d := 0) (Or.inl rfl)
    unfold kr_o2 kr_o1 at h4 ⊢
    refine And.intro (fun h => ?_) (fun h => ?_)
    · have h := of_decide_eq_true h
      have h : ¬ R 38 (nI a).toNatClampNeg = nI 3 := h
      rw [ea, (hR.2.2.1 a ha).1, nI_eq (by omega) (by omega)] at h
      rw [if_neg h] at h4 ⊢
      refine kb_E_to (cr_claim hR (b := 0) (by decide)) ?_
      refine kb_E_to h4 ?_
      exact And.intro rfl rfl
    · have h := Classical.not_not.mp (of_decide_eq_false h)
      have h : R 38 (nI a).toNatClampNeg = nI 3 := h
      rw [ea, (hR.2.2.1 a ha).1, nI_eq (by omega) (by omega)] at h
      rw [if_pos h] at h4 ⊢
      have s1 := cr_storeAt R (j := 3 * a) (by omega)
      rw [← kr_3] at s1
      refine kb_E_to s1 ?_
      have s2 := cr_remove (kr_so_ok hR (3 * a)) (j := 0) ha (by rw [kr_so_fr]; omega)
      rw [Nat.add_zero, ← kr_3] at s2
      refine kb_E_to s2 ?_
      refine kb_E_to h4 ?_
      exact And.intro rfl rfl
/-- word i of file f of application a becomes w -/
def kr_ch (R : kb_M) (a f i : Nat) (w : Int32) : kb_M := kb_up (kb_up (kr_op R a (6 * f + i / 4)) 34 (144 * a + 24 * f + i) w) 37 (3 * a + kr_fr (kr_op R a (6 * f + i / 4)) a - 1) 1
theorem kr_wx {a f : Nat} (i : Nat) : (Int16.ofInt 144).toInt32 * nI a + (Int8.ofInt 24).toInt32 * nI f + nI i = nI (144 * a + 24 * f + i) := by
  rw [show (Int16.ofInt 144).toInt32 = nI 144 from rfl, show (Int8.ofInt 24).toInt32 = nI 24 from rfl, pk_mul, pk_mul, nI_add, nI_add]
set_option maxRecDepth 100000 in
theorem cr_change {R : kb_M} (hR : kr_ok R) {a f i : Nat} (ha : a < 2) (hf : f < 6) (hi : i < 24) (w : Int32) : kb_E (kb_en kz_Model_change [.inr (some 33), .inl (nI a), .inl (nI f), .inl (nI i), .inl w] R) (fun q => q = (none, kr_ch R a f i w)) := by
  have ea : (nI a).toNatClampNeg = a := nI_clamp (by omega)
  obtain ⟨o1, o2⟩ := kr_op_ok hR ha (6 * f + i / 4)
  obtain ⟨o3, o4⟩ := o1.2.2.1 a ha
  have hx := kr_wx (a := a) (f := f) i
  have hcl : (nI (144 * a + 24 * f + i)).toNatClampNeg = 144 * a + 24 * f + i := nI_clamp (by omega)
  have e38 : (kb_up (kr_op R a (6 * f + i / 4)) 34 (144 * a + 24 * f + i) w) 38 = (kr_op R a (6 * f + i / 4)) 38 := kb_up_ne _ _ _ (by decide)
  have hy : Int32.ofInt 3 * nI a + (kb_up (kr_op R a (6 * f + i / 4)) 34 (144 * a + 24 * f + i) w) 38 (nI a).toNatClampNeg - Int32.ofInt 1 = nI (3 * a + kr_fr (kr_op R a (6 * f + i / 4)) a - 1) := by
    rw [ea, e38, o3, kr_3, nI_add, show Int32.ofInt 1 = nI 1 from rfl, pk_sub (by omega)]
  refine kb_go 60 [] ?_
  refine kb_E_to (cr_open hR ha hf hi) ?_
  refine And.intro (by rw [hx]; exact kb_in_nI (by omega) (by omega)) ?_
  refine And.intro (kb_in_nI ha (by omega)) ?_
  refine And.intro ?_ (And.intro rfl ?_)
  · rw [hx, hcl, hy, kb_in_nI (by omega) (by omega)]
    rfl
  · rw [hx, hcl, hy, nI_clamp (by omega)]
    rfl
