/-! the reference, first half: counts, time, wishes. Row 33: now, stored, loaded; 34 words, 35 size, 36 cached, 37 changed, 38 frames, 39 bound, 40 lost, 41 isBlock, 42 state, 43 deadline, 44 held -/
abbrev kr_bd (R : kb_M) (g : Nat) : Nat := (R 39 g).toNatClampNeg
abbrev kr_sz (R : kb_M) (j : Nat) : Nat := (R 35 j).toNatClampNeg
abbrev kr_fr (R : kb_M) (a : Nat) : Nat := (R 38 a).toNatClampNeg
def kr_ok (R : kb_M) : Prop := (∀ g, g < 2 → R 39 g = nI (kr_bd R g) ∧ kr_bd R g ≤ 60) ∧ (∀ j, j < 12 → R 35 j = nI (kr_sz R j) ∧ kr_sz R j ≤ 24) ∧ (∀ a, a < 2 → R 38 a = nI (kr_fr R a) ∧ kr_fr R a ≤ 3) ∧ (∀ j, j < 120 → R 41 j = 0 ∨ R 41 j = 1) ∧ (∀ j, j < 6 → R 37 j = 0 ∨ R 37 j = 1)
/-- how many of the first n tickets of guest g are live and of kind b -/
def kr_l (R : kb_M) (g : Nat) (b : Int32) : Nat → Nat
  | 0 => 0
  | n + 1 => kr_l R g b n + (if 2 ≤ R 42 (60 * g + n) ∧ R 41 (60 * g + n) = b then 1 else 0)
theorem kr_l_le (R : kb_M) (g : Nat) (b : Int32) : ∀ n, kr_l R g b n ≤ n := by
  intro n
  induction n with
  | zero => exact Nat.le_refl _
  | succ n ih => unfold kr_l; split <;> omega
/-- the blocks of the first n files of application a -/
def kr_b (R : kb_M) (a : Nat) : Nat → Nat
  | 0 => 0
  | n + 1 => kr_b R a n + (kr_sz R (6 * a + n) + 3) / 4
def kr_c (R : kb_M) (e b : Nat) : Nat := if e < 2 then (if b = 0 then kr_fr R e else kr_b R e 6) else kr_l R (e - 2) (nI b) (kr_bd R (e - 2))
def kr_f (R : kb_M) (b : Nat) : Int32 := nI (12 + 12 * b) - nI (kr_c R 0 b) - nI (kr_c R 1 b) - nI (kr_c R 2 b) - nI (kr_c R 3 b)
set_option maxRecDepth 100000 in
theorem cr_within (M : kb_M) (v lo hi : Int32) : kb_E (kb_en kz_Model_within [.inl v, .inl lo, .inl hi] M) (fun q => q = (some (.inl (if lo ≤ v ∧ v ≤ hi then 1 else 0)), M)) := by
  refine kb_go 20 [] ?_
  refine And.intro (fun h => ?_) (fun h => ?_)
  · have h := of_decide_eq_true h
    rw [if_neg (fun q => absurd q.1 (Int32.not_le.mpr h))]
    exact And.intro rfl rfl
  · have h := of_decide_eq_false h
    refine And.intro (fun h2 => ?_) (fun h2 => ?_)
    · have h2 := of_decide_eq_true h2
      rw [if_neg (fun q => absurd q.2 (Int32.not_le.mpr h2))]
      exact And.intro rfl rfl
    · have h2 := of_decide_eq_false h2
      rw [if_pos ⟨Int32.not_lt.mp h, Int32.not_lt.mp h2⟩]
      exact And.intro rfl rfl
theorem kr_g2 {g : Nat} (hg : g < 2) : nI (2 + g) - Int32.ofInt 2 = nI g := by
  match g, hg with
  | 0, _ => rfl
  | 1, _ => rfl
theorem kr_60 {g : Nat} (hg : g < 2) (t : Nat) : (Int8.ofInt 60).toInt32 * nI g + nI t = nI (60 * g + t) := by
  match g, hg with
  | 0, _ => rw [show (Int8.ofInt 60).toInt32 * nI 0 = nI 0 from rfl, nI_add]
  | 1, _ => rw [show (Int8.ofInt 60).toInt32 * nI 1 = nI 60 from rfl, nI_add]
theorem kr_6 {a : Nat} (ha : a < 6) (t : Nat) : (Int8.ofInt 6).toInt32 * nI a + nI t = nI (6 * a + t) := by
  rw [show (Int8.ofInt 6).toInt32 = nI 6 from rfl, pk_mul, nI_add]
set_option maxRecDepth 100000 in
theorem cr_blocksOf {R : kb_M} (hR : kr_ok R) {a : Nat} (ha : a < 2) : kb_E (kb_en kz_Model_blocksOf [.inr (some 33), .inl (nI a)] R) (fun q => q = (some (.inl (nI (kr_b R a 6))), R)) := by
  have loop : ∀ (k i : Nat) (w v : Int32), i + k = 6 → w = nI (kr_b R a i) → v = nI i → kb_E (kz_Model_blocksOf, 4, [some (.inr (some 33)), some (.inl (nI a)), some (.inl w), some (.inl v)], [], R) (fun q => q = (some (.inl (nI (kr_b R a 6))), R)) := by
    intro k
    induction k with
    | zero =>
      intro i w v hi hw hv
      have hi : i = 6 := by omega
      subst hi; subst hv; subst hw
      refine kb_go 40 [4] ?_
      exact And.intro (fun _ => And.intro rfl rfl) (fun h => absurd h (by decide))
    | succ k ih =>
      intro i w v hi hw hv
      subst hv; subst hw
      have hx := kr_6 (a := a) (by omega) i
      have hj := hR.2.1 (6 * a + i) (by omega)
      have hcl : (nI (6 * a + i)).toNatClampNeg = 6 * a + i := nI_clamp (by omega)
      refine kb_go 40 [4] ?_
      refine And.intro (fun h => absurd (of_decide_eq_true h) (nI_ge (b := 6) (by omega) (by omega))) (fun _ => ?_)
      refine And.intro (by rw [hx]; exact kb_in_nI (by omega) (by omega)) ?_
      refine And.intro rfl ?_
      refine ih (i + 1) _ _ (by omega) ?_ (nI_succ i).symm
      rw [hx, hcl, hj.1, show Int32.ofInt 3 = nI 3 from rfl, show Int32.ofInt 4 = nI 4 from rfl, nI_add, pk_div (by omega) (by omega) (by omega), nI_add]
      rfl
  exact kb_go 20 [4] (loop 6 0 _ _ rfl rfl rfl)
set_option maxRecDepth 100000 in
theorem cr_liveOf {R : kb_M} (hR : kr_ok R) {g : Nat} (hg : g < 2) (b : Int32) : kb_E (kb_en kz_Model_liveOf [.inr (some 33), .inl (nI (2 + g)), .inl b] R) (fun q => q = (some (.inl (nI (kr_l R g b (kr_bd R g)))), R)) := by
  obtain ⟨hbd, hle⟩ := hR.1 g hg
  have eg := kr_g2 hg
  have eg2 : (nI g).toNatClampNeg = g := nI_clamp (by omega)
  have loop : ∀ (k i : Nat) (w v : Int32) (x : Option kb_v), i + k = kr_bd R g → w = nI (kr_l R g b i) → v = nI i → kb_E (kz_Model_liveOf, 5, [some (.inr (some 33)), some (.inl (nI (2 + g))), some (.inl b), some (.inl w), some (.inl v), x], [], R) (fun q => q = (some (.inl (nI (kr_l R g b (kr_bd R g)))), R)) := by
    intro k
    induction k with
    | zero =>
      intro i w v x hi hw hv
      subst hv
      refine kb_go 40 [5] ?_
      refine And.intro (by rw [eg]; exact kb_in_nI hg (by omega)) ?_
      refine And.intro (fun h => ?_) (fun h => ?_)
      · rw [show kr_bd R g = i by omega, hw]
        exact And.intro rfl rfl
      · have h := of_decide_eq_false h
        rw [eg, eg2, hbd, show i = kr_bd R g by omega] at h
        exact absurd (Int32.le_refl _) h
    | succ k ih =>
      intro i w v x hi hw hv
      subst hv
      have hx := kr_60 hg i
      have hcl : (nI (60 * g + i)).toNatClampNeg = 60 * g + i := nI_clamp (by omega)
      have hin : kb_in (nI (60 * g + i)) 120 = true := kb_in_nI (by omega) (by omega)
      have hs : kr_l R g b (i + 1) = kr_l R g b i + (if 2 ≤ R 42 (60 * g + i) ∧ R 41 (60 * g + i) = b then 1 else 0) := rfl
      refine kb_go 40 [5] ?_
      refine And.intro (by rw [eg]; exact kb_in_nI hg (by omega)) ?_
      refine And.intro (fun h => ?_) (fun _ => ?_)
      · have h := of_decide_eq_true h
        rw [eg, eg2, hbd, nI_leI (by omega) (by omega)] at h
        omega
      · refine And.intro (by rw [eg, hx]; exact hin) ?_
        refine And.intro (fun h => ?_) (fun h => ?_)
        · have h := of_decide_eq_true h
          rw [eg, hx, hcl] at h
          refine ih (i + 1) _ _ _ (by omega) ?_ (nI_succ i).symm
          rw [hs, if_neg (fun q => absurd q.1 (Int32.not_le.mpr h)), Nat.add_zero]
          exact hw
        · have h := of_decide_eq_false h
          rw [eg, hx, hcl] at h
          refine And.intro (by rw [eg, hx]; exact hin) ?_
          refine And.intro (fun h2 => ?_) (fun h2 => ?_)
          · have h2 := of_decide_eq_true h2
            rw [eg, hx, hcl] at h2
            refine ih (i + 1) _ _ _ (by omega) ?_ (nI_succ i).symm
            rw [hs, if_neg (fun q => h2 q.2), Nat.add_zero]
            exact hw
          · have h2 := Classical.not_not.mp (of_decide_eq_false h2)
            rw [eg, hx, hcl] at h2
            refine ih (i + 1) _ _ _ (by omega) ?_ (nI_succ i).symm
            rw [hs, if_pos ⟨Int32.not_lt.mp h, h2⟩, nI_succ, ← hw]
            rfl
  exact kb_go 20 [5] (loop (kr_bd R g) 0 _ _ _ (by omega) rfl rfl)
set_option maxRecDepth 100000 in
theorem cr_count {R : kb_M} (hR : kr_ok R) {e b : Nat} (he : e < 4) (hb : b < 2) : kb_E (kb_en kz_Model_count [.inr (some 33), .inl (nI e), .inl (nI b)] R) (fun q => q = (some (.inl (nI (kr_c R e b))), R)) := by
  refine kb_go 40 [] ?_
  refine And.intro (fun h => ?_) (fun h => ?_)
  · have h := of_decide_eq_true h
    have h : nI e < nI 2 := h
    rw [nI_ltI (by omega) (by omega)] at h
    unfold kr_c
    rw [if_pos h]
    match b, hb with
    | 0, _ =>
      refine And.intro (fun _ => ?_) (fun h => absurd h (by decide))
      refine And.intro (kb_in_nI h (by omega)) (And.intro rfl ?_)
      rw [nI_clamp (by omega), (hR.2.2.1 e h).1]
      rfl
    | 1, _ =>
      refine And.intro (fun h => absurd h (by decide)) (fun _ => ?_)
      exact kb_E_to (cr_blocksOf hR h) (And.intro rfl rfl)
  · have h := of_decide_eq_false h
    have h : ¬ nI e < nI 2 := h
    rw [nI_ltI (by omega) (by omega)] at h
    unfold kr_c
    rw [if_neg h]
    have h2 := cr_liveOf hR (g := e - 2) (by omega) (nI b)
    rw [show 2 + (e - 2) = e by omega] at h2
    exact kb_E_to h2 (And.intro rfl rfl)
set_option maxRecDepth 100000 in
theorem cr_free {R : kb_M} (hR : kr_ok R) {b : Nat} (hb : b < 2) : kb_E (kb_en kz_Model_free [.inr (some 33), .inl (nI b)] R) (fun q => q = (some (.inl (kr_f R b)), R)) := by
  have h0 := cr_count hR (e := 0) (by omega) hb
  have h1 := cr_count hR (e := 1) (by omega) hb
  have h2 := cr_count hR (e := 2) (by omega) hb
  have h3 := cr_count hR (e := 3) (by omega) hb
  have main : ∀ v : Int32, v = nI (12 + 12 * b) → kb_E (kz_Model_free, 14, [some (.inr (some 33)), some (.inl (nI b)), some (.inl v), some (.inl 0)], [], R) (fun q => q = (some (.inl (kr_f R b)), R)) := by
    intro v hv
    subst hv
    refine kb_go 60 [] ?_
    refine And.intro (fun h => absurd h (by decide)) (fun _ => ?_)
    refine kb_E_to h0 ?_
    refine And.intro (fun h => absurd h (by decide)) (fun _ => ?_)
    refine kb_E_to h1 ?_
    refine And.intro (fun h => absurd h (by decide)) (fun _ => ?_)
    refine kb_E_to h2 ?_
    refine And.intro (fun h => absurd h (by decide)) (fun _ => ?_)
    refine kb_E_to h3 ?_
    refine And.intro (fun _ => ?_) (fun h => absurd h (by decide))
    exact And.intro rfl rfl
  refine kb_go 20 [14] ?_
  match b, hb with
  | 0, _ => exact And.intro (fun _ => main _ rfl) (fun h => absurd h (by decide))
  | 1, _ => exact And.intro (fun h => absurd h (by decide)) (fun _ => main _ rfl)
