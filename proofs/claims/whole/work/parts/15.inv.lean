/-! what ties the rows of the system (C) to the rows of the reference (R) -/
/-- guest g's tickets -/
def ki_G (C R : kb_M) (g : Nat) : Prop :=
  C (9 + 5 * g) 7 = R 39 g ∧
  (∀ t, t < kr_bd R g → C (10 + 5 * g) t = R 41 (60 * g + t) ∧ C (12 + 5 * g) t = R 42 (60 * g + t) ∧ (R 42 (60 * g + t) = 3 → C (13 + 5 * g) t = R 43 (60 * g + t))) ∧
  (∀ t, t < kr_bd R g → 2 ≤ R 42 (60 * g + t) → ∀ b, b < 2 → R 41 (60 * g + t) = nI b → ∃ r, r < 12 + 12 * b ∧ C (11 + 5 * g) t = nI r ∧ C (4 + 3 * b) r = nI (2 + g) ∧ ∀ k, k < 4 → C (5 + 3 * b) (4 * r + k) = R 44 (4 * (60 * g + t) + k)) ∧
  (∀ t u, t < kr_bd R g → u < kr_bd R g → 2 ≤ R 42 (60 * g + t) → 2 ≤ R 42 (60 * g + u) → R 41 (60 * g + t) = R 41 (60 * g + u) → C (11 + 5 * g) t = C (11 + 5 * g) u → t = u)
/-- losses -/
def ki_L (C R : kb_M) : Prop := ∀ g, g < 2 → C (9 + 5 * g) 0 = R 40 g
/-- what never changes, and the time -/
def ki_K (C R : kb_M) : Prop := C 1 0 = R 33 0 ∧ C 3 0 = 3 ∧ C 6 0 = 6 ∧ C 19 3 = 0 ∧ C 26 3 = 1
/-- who holds a resource: nobody or one of the four -/
def ki_H (C : kb_M) : Prop := ∀ b, b < 2 → ∀ r, r < 12 + 12 * b → C (4 + 3 * b) r = -1 ∨ ∃ e, e < 4 ∧ C (4 + 3 * b) r = nI e
/-- how many each holds -/
def ki_N (C R : kb_M) : Prop := ∀ b, b < 2 → ∀ e, e < 4 → kp_c (C (4 + 3 * b)) (nI e) (12 + 12 * b) = kr_c R e b
/-- transfers -/
def ki_X (C R : kb_M) : Prop := C 19 0 + C 26 0 = R 33 2 ∧ C 19 1 + C 26 1 = R 33 1
/-- application a: its slots, in the order of use -/
def ki_B (C R : kb_M) (a : Nat) (L : List Nat) : Prop :=
  L.length = kr_fr R a ∧ L.Nodup ∧ (∀ s, s ∈ L → s < 3) ∧
  (∀ s, s < 3 → s ∉ L → C (23 + 7 * a + s) 0 = -1 ∧ C (23 + 7 * a + s) 1 = -1 ∧ C (23 + 7 * a + s) 3 = 0) ∧
  (∀ j s : Nat, L[j]? = some s → C (23 + 7 * a + s) 1 = R 36 (3 * a + j) ∧ C (23 + 7 * a + s) 3 = R 37 (3 * a + j) ∧ (∃ r, r < 12 ∧ C (23 + 7 * a + s) 0 = nI r ∧ C 4 r = nI a) ∧ (∃ f p, f < 6 ∧ p < 6 ∧ 4 * p < kr_sz R (6 * a + f) ∧ R 36 (3 * a + j) = nI (6 * f + p)) ∧ ∃ u v, C (23 + 7 * a + s) 2 = nI u ∧ C (19 + 7 * a) 7 = nI v ∧ u ≤ v ∧ v < 1000000) ∧
  (∀ j i s z : Nat, j < i → L[j]? = some s → L[i]? = some z → C (23 + 7 * a + s) 2 < C (23 + 7 * a + z) 2 ∧ R 36 (3 * a + j) ≠ R 36 (3 * a + i) ∧ C (23 + 7 * a + s) 0 ≠ C (23 + 7 * a + z) 0)
/-- its blocks -/
def ki_P (C R : kb_M) (a : Nat) : Prop :=
  (∀ f p, f < 6 → p < 6 → 4 * p < kr_sz R (6 * a + f) → ∃ r, r < 24 ∧ C (21 + 7 * a) (6 * f + p) = nI r ∧ C 7 r = nI a) ∧
  (∀ f p, f < 6 → p < 6 → ¬ 4 * p < kr_sz R (6 * a + f) → C (21 + 7 * a) (6 * f + p) = -1) ∧
  (∀ i j, i < 36 → j < 36 → C (21 + 7 * a) i ≠ -1 → C (21 + 7 * a) i = C (21 + 7 * a) j → i = j)
/-- its words -/
def ki_W (C R : kb_M) (a : Nat) : Prop := ∀ f i r, f < 6 → i < kr_sz R (6 * a + f) → C (21 + 7 * a) (6 * f + i / 4) = nI r → r < 24 →
  (∀ s r0, s < 3 → C (23 + 7 * a + s) 1 = nI (6 * f + i / 4) → C (23 + 7 * a + s) 0 = nI r0 → r0 < 12 → C 5 (4 * r0 + i % 4) = R 34 (144 * a + 24 * f + i) ∧ (C (23 + 7 * a + s) 3 = 0 → C 8 (4 * r + i % 4) = R 34 (144 * a + 24 * f + i))) ∧
  ((∀ s, s < 3 → C (23 + 7 * a + s) 1 ≠ nI (6 * f + i / 4)) → C 8 (4 * r + i % 4) = R 34 (144 * a + 24 * f + i))
def ki_A (N : Nat) (C R : kb_M) (a : Nat) : Prop := ((∀ f, f < 6 → C (20 + 7 * a) f = R 35 (6 * a + f)) ∧ kr_b R a 6 ≤ 6) ∧ (∃ u, C (19 + 7 * a) 7 = nI u ∧ u ≤ N) ∧ ki_P C R a ∧ (∃ L, ki_B C R a L) ∧ ki_W C R a
theorem kr_b_eq {R S : kb_M} (h : S 35 = R 35) {a n : Nat} : kr_b S a n = kr_b R a n := by
  induction n with
  | zero => rfl
  | succ n ih => unfold kr_b kr_sz; rw [ih, h]
/-- what e owns stays as it is -/
def ki_keep (C D : kb_M) (e : Nat) : Prop := ∀ b, b < 2 → ∀ r, r < 12 + 12 * b → C (4 + 3 * b) r = nI e → D (4 + 3 * b) r = nI e ∧ ∀ k, k < 4 → D (5 + 3 * b) (4 * r + k) = C (5 + 3 * b) (4 * r + k)
theorem kk_refl (C : kb_M) (e : Nat) : ki_keep C C e := fun _ _ _ _ h => ⟨h, fun _ _ => rfl⟩
theorem kk_rows {C D : kb_M} (e : Nat) (h : ∀ b, b < 2 → D (4 + 3 * b) = C (4 + 3 * b) ∧ D (5 + 3 * b) = C (5 + 3 * b)) : ki_keep C D e := by
  intro b hb r hr hc
  rw [(h b hb).1, (h b hb).2]
  exact ⟨hc, fun _ _ => rfl⟩
theorem kk_trans {C D E : kb_M} {e : Nat} (h1 : ki_keep C D e) (h2 : ki_keep D E e) : ki_keep C E e := by
  intro b hb r hr hc
  obtain ⟨a1, a2⟩ := h1 b hb r hr hc
  obtain ⟨b1, b2⟩ := h2 b hb r hr a1
  exact ⟨b1, fun k hk => by rw [b2 k hk, a2 k hk]⟩
theorem kk_hold {C : kb_M} {b r e : Nat} (x : Int32) (hb : b < 2) (hne : C (4 + 3 * b) r ≠ nI e) : ki_keep C (kb_up C (4 + 3 * b) r x) e := by
  intro c hc q hq h
  refine ⟨?_, fun k hk => by rw [kb_up_ne _ _ _ (by omega)]⟩
  by_cases hbc : c = b
  · subst hbc
    rw [kb_up_at]
    have : q ≠ r := fun z => hne (by rw [← z]; exact h)
    rw [pk_un this]
    exact h
  · rw [kb_up_ne _ _ _ (by omega)]
    exact h
theorem kk_words {C : kb_M} {b r e : Nat} {f : Nat → Int32} (hb : b < 2) (hne : C (4 + 3 * b) r ≠ nI e) (hf : ∀ j, j / 4 ≠ r → f j = C (5 + 3 * b) j) : ki_keep C (kb_ro C (5 + 3 * b) f) e := by
  intro c hc q hq h
  refine ⟨by rw [kb_ro_ne _ _ (by omega)]; exact h, fun k hk => ?_⟩
  by_cases hbc : c = b
  · subst hbc
    rw [kb_ro_at]
    have : q ≠ r := fun z => hne (by rw [← z]; exact h)
    exact hf _ (by omega)
  · rw [kb_ro_ne _ _ (by omega)]
theorem kk_word {C : kb_M} {b r e k : Nat} (w : Int32) (hb : b < 2) (hk : k < 4) (hne : C (4 + 3 * b) r ≠ nI e) : ki_keep C (kb_up C (5 + 3 * b) (4 * r + k) w) e := kk_words hb hne (fun j hj => pk_un (by omega))
theorem kk_other {C : kb_M} {k i : Nat} (x : Int32) (e : Nat) (h : ∀ b, b < 2 → k ≠ 4 + 3 * b ∧ k ≠ 5 + 3 * b) : ki_keep C (kb_up C k i x) e := kk_rows e (fun b hb => ⟨kb_up_ne _ _ _ (fun q => (h b hb).1 q.symm), kb_up_ne _ _ _ (fun q => (h b hb).2 q.symm)⟩)
/-- the reference's rows of guest g stay -/
def kr_sg (R S : kb_M) (g : Nat) : Prop := S 39 g = R 39 g ∧ (∀ t, t < 60 → S 41 (60 * g + t) = R 41 (60 * g + t) ∧ S 42 (60 * g + t) = R 42 (60 * g + t) ∧ S 43 (60 * g + t) = R 43 (60 * g + t)) ∧ ∀ t k, t < 60 → k < 4 → S 44 (4 * (60 * g + t) + k) = R 44 (4 * (60 * g + t) + k)
theorem ki_G_fr {C D R S : kb_M} {g : Nat} (h : ki_G C R g) (hR : kr_ok R) (hg : g < 2) (hrow : ∀ k, 9 + 5 * g ≤ k → k ≤ 13 + 5 * g → D k = C k) (hs : kr_sg R S g) (hk : ki_keep C D (2 + g)) : ki_G D S g := by
  obtain ⟨h1, h2, h3, h4⟩ := h
  obtain ⟨s1, s2, s3⟩ := hs
  have hle := (hR.1 g hg).2
  have hbd : kr_bd S g = kr_bd R g := by unfold kr_bd; rw [s1]
  have d1 := hrow (9 + 5 * g) (by omega) (by omega)
  have d2 := hrow (10 + 5 * g) (by omega) (by omega)
  have d3 := hrow (11 + 5 * g) (by omega) (by omega)
  have d4 := hrow (12 + 5 * g) (by omega) (by omega)
  have d5 := hrow (13 + 5 * g) (by omega) (by omega)
  unfold ki_G
  rw [hbd, d1, d2, d3, d4, d5, s1]
  refine ⟨h1, fun t ht => ?_, fun t ht hl b hb hkd => ?_, fun t u ht hu hl1 hl2 hkd he => ?_⟩
  · obtain ⟨a1, a2, a3⟩ := s2 t (by omega)
    rw [a1, a2, a3]
    exact h2 t ht
  · obtain ⟨a1, a2, a3⟩ := s2 t (by omega)
    rw [a2] at hl
    rw [a1] at hkd
    obtain ⟨r, r1, r2, r3, r4⟩ := h3 t ht hl b hb hkd
    obtain ⟨k1, k2⟩ := hk b hb r r1 r3
    exact ⟨r, r1, r2, k1, fun k hk4 => by rw [k2 k hk4, r4 k hk4, s3 t k (by omega) hk4]⟩
  · obtain ⟨a1, a2, a3⟩ := s2 t (by omega)
    obtain ⟨b1, b2, b3⟩ := s2 u (by omega)
    rw [a2] at hl1
    rw [b2] at hl2
    rw [a1, b1] at hkd
    exact h4 t u ht hu hl1 hl2 hkd he
theorem ki_A_fr {N : Nat} {C D R S : kb_M} {a : Nat} (h : ki_A N C R a) (hR : kr_ok R) (ha : a < 2) (hrow : ∀ k, 19 + 7 * a ≤ k → k ≤ 25 + 7 * a → D k = C k) (hs : ∀ k, 34 ≤ k → k ≤ 38 → S k = R k) (hk : ki_keep C D a) : ki_A N D S a := by
  obtain ⟨h1, h2, ⟨p1, p2, p3⟩, ⟨L, l1, l2, l3, l4, l5, l6⟩, hw⟩ := h
  have s34 := hs 34 (by omega) (by omega)
  have s35 := hs 35 (by omega) (by omega)
  have s36 := hs 36 (by omega) (by omega)
  have s37 := hs 37 (by omega) (by omega)
  have s38 := hs 38 (by omega) (by omega)
  have d1 := hrow (19 + 7 * a) (by omega) (by omega)
  have d2 := hrow (20 + 7 * a) (by omega) (by omega)
  have d3 := hrow (21 + 7 * a) (by omega) (by omega)
  have ds : ∀ s, s < 3 → D (23 + 7 * a + s) = C (23 + 7 * a + s) := fun s hs => hrow _ (by omega) (by omega)
  refine ⟨?_, ?_, ⟨?_, ?_, ?_⟩, ⟨L, ?_, l2, l3, ?_, ?_, ?_⟩, ?_⟩
  · rw [d2, s35, kr_b_eq s35]; exact h1
  · rw [d1]; exact h2
  · intro f p hf hp hlt
    unfold kr_sz at hlt
    rw [s35] at hlt
    obtain ⟨r, r1, r2, r3⟩ := p1 f p hf hp hlt
    exact ⟨r, r1, by rw [d3]; exact r2, (hk 1 (by decide) r r1 r3).1⟩
  · intro f p hf hp hlt
    unfold kr_sz at hlt
    rw [s35] at hlt
    rw [d3]
    exact p2 f p hf hp hlt
  · rw [d3]; exact p3
  · rw [l1]; unfold kr_fr; rw [s38]
  · intro s hs hn
    rw [ds s hs]
    exact l4 s hs hn
  · intro j s hj
    have hs3 := l3 s (List.mem_of_getElem? hj)
    obtain ⟨q1, q2, ⟨r, r1, r2, r3⟩, ⟨f, p, f1, f2, f3, f4⟩, q5⟩ := l5 j s hj
    rw [ds s hs3, d1, s36, s37]
    exact ⟨q1, q2, ⟨r, r1, r2, (hk 0 (by decide) r r1 r3).1⟩, ⟨f, p, f1, f2, by unfold kr_sz; rw [s35]; exact f3, f4⟩, q5⟩
  · intro j i s z hji hj hi
    rw [ds s (l3 s (List.mem_of_getElem? hj)), ds z (l3 z (List.mem_of_getElem? hi)), s36]
    exact l6 j i s z hji hj hi
  · intro f i r hf hi hr hr24
    unfold kr_sz at hi
    rw [s35] at hi
    rw [d3] at hr
    have hown : C 7 r = nI a := by
      by_cases h6 : i / 4 < 6
      · obtain ⟨r', r1, r2, r3⟩ := p1 f (i / 4) hf h6 (by have : (R 35 (6 * a + f)).toNatClampNeg = kr_sz R (6 * a + f) := rfl; omega)
        have e : nI r = nI r' := hr.symm.trans r2
        rw [nI_eq (by omega) (by omega)] at e
        rw [e]
        exact r3
      · exfalso
        have h24 := (hR.2.1 (6 * a + f) (by omega)).2
        have : (R 35 (6 * a + f)).toNatClampNeg = kr_sz R (6 * a + f) := rfl
        omega
    obtain ⟨w1, w2⟩ := hw f i r hf hi hr hr24
    have e8 : ∀ k, k < 4 → D 8 (4 * r + k) = C 8 (4 * r + k) := (hk 1 (by decide) r hr24 hown).2
    refine ⟨fun s r0 hs3 hp h0 hr0 => ?_, fun hno => ?_⟩
    · rw [ds s hs3] at hp h0
      rw [ds s hs3]
      obtain ⟨v1, v2⟩ := w1 s r0 hs3 hp h0 hr0
      have hm : s ∈ L := by
        by_cases hm : s ∈ L
        · exact hm
        · exfalso
          have := (l4 s hs3 hm).1
          rw [h0] at this
          exact absurd (this ▸ nI_pos (n := r0) (by omega) : ¬ (-1 : Int32) < 0) (by decide)
      obtain ⟨j, hj⟩ := List.getElem?_of_mem hm
      obtain ⟨-, -, ⟨r', r1, r2, r3⟩, -⟩ := l5 j s hj
      have e : nI r0 = nI r' := h0.symm.trans r2
      rw [nI_eq (by omega) (by omega)] at e
      subst e
      have e5 : ∀ k, k < 4 → D 5 (4 * r0 + k) = C 5 (4 * r0 + k) := (hk 0 (by decide) r0 r1 r3).2
      rw [e5 _ (by omega), e8 _ (by omega), s34]
      exact ⟨v1, v2⟩
    · rw [e8 _ (by omega), s34]
      exact w2 (fun s hs3 => by rw [← ds s hs3]; exact hno s hs3)
theorem kp_c_upd {f : Nat → Int32} {r : Nat} {x e : Int32} : ∀ n, r < n → kp_c (upd f r x) e n + (if f r = e then 1 else 0) = kp_c f e n + (if x = e then 1 else 0) := by
  intro n
  induction n with
  | zero => intro h; omega
  | succ n ih =>
    intro h
    unfold kp_c
    by_cases hr : r = n
    · subst hr
      have e0 : ∀ m, m ≤ r → kp_c (upd f r x) e m = kp_c f e m := by
        intro m
        induction m with
        | zero => intro _; rfl
        | succ m ihm =>
          intro hm
          unfold kp_c
          rw [ihm (by omega), pk_un (by omega)]
      rw [e0 r (Nat.le_refl _), pk_us]
      omega
    · have h1 := ih (by omega)
      rw [pk_un (fun q => hr q.symm)]
      omega
theorem kp_c_pos {f : Nat → Int32} {r : Nat} {e : Int32} : ∀ n, r < n → f r = e → 0 < kp_c f e n := by
  intro n
  induction n with
  | zero => intro h; omega
  | succ n ih =>
    intro h he
    unfold kp_c
    by_cases hr : r = n
    · subst hr; rw [if_pos he]; omega
    · have := ih (by omega) he; omega
/-- all of n are nobody's or of one of the four -/
theorem kp_c_sum {f : Nat → Int32} : ∀ n, (∀ r, r < n → f r = -1 ∨ ∃ e : Nat, e < 4 ∧ f r = nI e) → kp_c f (-1) n + kp_c f (nI 0) n + kp_c f (nI 1) n + kp_c f (nI 2) n + kp_c f (nI 3) n = n := by
  intro n
  induction n with
  | zero => intro _; rfl
  | succ n ih =>
    intro h
    have h1 := ih (fun r hr => h r (by omega))
    unfold kp_c
    rcases h n (by omega) with h2 | ⟨e, he, h2⟩
    · rw [h2, if_pos rfl, if_neg (by decide), if_neg (by decide), if_neg (by decide), if_neg (by decide)]
      omega
    · rw [h2]
      match e, he with
      | 0, _ => rw [if_neg (by decide), if_pos rfl, if_neg (by decide), if_neg (by decide), if_neg (by decide)]; omega
      | 1, _ => rw [if_neg (by decide), if_neg (by decide), if_pos rfl, if_neg (by decide), if_neg (by decide)]; omega
      | 2, _ => rw [if_neg (by decide), if_neg (by decide), if_neg (by decide), if_pos rfl, if_neg (by decide)]; omega
      | 3, _ => rw [if_neg (by decide), if_neg (by decide), if_neg (by decide), if_neg (by decide), if_pos rfl]; omega
theorem kr_l_eq {R S : kb_M} {g : Nat} {b : Int32} : ∀ n, (∀ t, t < n → S 41 (60 * g + t) = R 41 (60 * g + t) ∧ (2 ≤ S 42 (60 * g + t) ↔ 2 ≤ R 42 (60 * g + t))) → kr_l S g b n = kr_l R g b n := by
  intro n
  induction n with
  | zero => intro _; rfl
  | succ n ih =>
    intro h
    unfold kr_l
    obtain ⟨h1, h2⟩ := h n (by omega)
    rw [ih (fun t ht => h t (by omega)), h1]
    by_cases h3 : 2 ≤ R 42 (60 * g + n)
    · by_cases h4 : R 41 (60 * g + n) = b
      · rw [if_pos ⟨h2.mpr h3, h4⟩, if_pos ⟨h3, h4⟩]
      · rw [if_neg (fun q => h4 q.2), if_neg (fun q => h4 q.2)]
    · rw [if_neg (fun q => h3 (h2.mp q.1)), if_neg (fun q => h3 q.1)]
/-- one ticket ends -/
theorem kr_l_end {R S : kb_M} {g t : Nat} {b : Int32} : ∀ n, t < n → (∀ u, u < n → S 41 (60 * g + u) = R 41 (60 * g + u)) → (∀ u, u < n → u ≠ t → S 42 (60 * g + u) = R 42 (60 * g + u)) → 2 ≤ R 42 (60 * g + t) → ¬ 2 ≤ S 42 (60 * g + t) → kr_l S g b n + (if R 41 (60 * g + t) = b then 1 else 0) = kr_l R g b n := by
  intro n
  induction n with
  | zero => intro h; omega
  | succ n ih =>
    intro ht h41 h42 hl hs
    unfold kr_l
    by_cases hn : t = n
    · subst hn
      have e0 : kr_l S g b t = kr_l R g b t := kr_l_eq t (fun u hu => ⟨h41 u (by omega), by rw [h42 u (by omega) (by omega)]⟩)
      rw [e0, if_neg (fun q => hs q.1)]
      by_cases hb : R 41 (60 * g + t) = b
      · rw [if_pos hb, if_pos ⟨hl, hb⟩]
      · rw [if_neg hb, if_neg (fun q => hb q.2)]
    · have h1 := ih (by omega) (fun u hu => h41 u (by omega)) (fun u hu hne => h42 u (by omega) hne) hl hs
      rw [h41 n (by omega), h42 n (by omega) (fun q => hn q.symm)]
      omega
