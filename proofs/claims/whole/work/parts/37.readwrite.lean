/-! read, write and length of the whole -/
theorem kz_mono {N B D : Nat} {C R : kb_M} (h : ki_Z N B C R) (hd : B ≤ D) : ki_Z N D C R := by
  obtain ⟨h1, ⟨n, n1, n2, n3⟩, h3⟩ := h
  exact ⟨h1, ⟨n, n1, by omega, n3⟩, h3⟩
/-- a call of both: the same answer, and they stay tied -/
def kw_P (N : Nat) (z y : Nat) (A : List kb_v) (C R : kb_M) : Prop := ∃ v S, kb_E (kb_en y (.inr (some 33) :: A) R) (fun q => q = (some (.inl v), S)) ∧ kb_E (kb_en z (.inr (some 0) :: A) C) (fun q => q.1 = some (.inl v) ∧ ki_V (N + 1) q.2 S)
theorem kv_z {N : Nat} {C R : kb_M} (h : ki_Z (N + 1) (55 * N + 5) C R) : ki_V (N + 1) C R := kz_V.mpr (kz_mono h (by omega))
set_option maxRecDepth 100000 in
theorem cq_open_f {a : Nat} (ha : a < 2) (C : kb_M) {v : Int32} (hv : ¬ (0 ≤ v ∧ v ≤ 5)) (x : Int32) : kb_E (kb_en kz_App_openPartOf [.inr (some (19 + 7 * a)), .inl v, .inl x] C) (fun q => q = (some (.inr none), C)) := by
  have F := cq_isFile C v
  rw [if_neg hv] at F
  have ha01 : a = 0 ∨ a = 1 := by omega
  rcases ha01 with rfl | rfl
  all_goals
    refine kb_go 60 [] ?_
    refine kb_E_to F ?_
    exact And.intro (fun _ => And.intro rfl rfl) (fun h => absurd h (by decide))
set_option maxRecDepth 100000 in
theorem cq_open_i {a f n : Nat} (ha : a < 2) (hf : f < 6) (C : kb_M) (hn : n < 1000) (hl : C (20 + 7 * a) f = nI n) {x : Int32} (hx : ¬ ∃ i, i < n ∧ x = nI i) : kb_E (kb_en kz_App_openPartOf [.inr (some (19 + 7 * a)), .inl (nI f), .inl x] C) (fun q => q = (some (.inr none), C)) := by
  have F := cq_isFile C (nI f)
  have h5 : 0 ≤ nI f ∧ nI f ≤ 5 := kr_out (n := 5) (by omega) (by omega)
  rw [if_pos h5] at F
  have hcl : (nI f).toNatClampNeg = f := nI_clamp (by omega)
  have fin : ¬ x < 0 → ¬ x < C (20 + 7 * a) f := by
    intro h0 h1
    obtain ⟨k, hk, rfl⟩ := nI_of h0
    rw [hl, nI_ltI hk (by omega)] at h1
    exact hx ⟨k, h1, rfl⟩
  rw [← hcl] at fin
  have ha01 : a = 0 ∨ a = 1 := by omega
  rcases ha01 with rfl | rfl
  all_goals
    refine kb_go 60 [] ?_
    refine kb_E_to F ?_
    refine And.intro (fun h => absurd h (by decide)) (fun _ => ?_)
    refine And.intro (fun _ => And.intro rfl rfl) (fun h => ?_)
    refine And.intro (kb_in_nI (by omega) (by omega)) ?_
    exact And.intro (fun h2 => absurd (of_decide_eq_true h2) (fin (of_decide_eq_false h))) (fun _ => And.intro rfl rfl)
/-- no such word: what the class opens is nothing, and the reference says so -/
theorem cq_open_no {N : Nat} {C R : kb_M} (h : ki_J N C R) {a : Nat} (ha : a < 2) {v x : Int32} (hn : ¬ ∃ f i, f < 6 ∧ v = nI f ∧ i < kr_sz R (6 * a + f) ∧ x = nI i) : kb_E (kb_en kz_App_openPartOf [.inr (some (19 + 7 * a)), .inl v, .inl x] C) (fun q => q = (some (.inr none), C)) ∧ kb_E (kb_en kz_Model_noWord [.inr (some 33), .inl (nI a), .inl v, .inl x] R) (fun q => q = (some (.inl 1), R)) := by
  by_cases hv : 0 ≤ v ∧ v ≤ 5
  · obtain ⟨f, hf, rfl⟩ := kr_in v (n := 5) (by decide) hv
    have hx : ¬ ∃ i, i < kr_sz R (6 * a + f) ∧ x = nI i := fun ⟨i, i1, i2⟩ => hn ⟨f, i, by omega, rfl, i1, i2⟩
    have hl := (h.2.2.2.2.2 a ha).1.1 f (by omega)
    obtain ⟨z1, z2⟩ := h.1.2.1 (6 * a + f) (by omega)
    exact ⟨cq_open_i ha (by omega) C (by omega) (hl.trans z1) hx, cr_word_no h.1 ha (by omega) hx⟩
  · exact ⟨cq_open_f ha C hv x, cr_noWord0 (fun q => hv q.2) x⟩
set_option maxRecDepth 100000 in
theorem op_writeWord {N B : Nat} {C R : kb_M} (h : ki_Z N B C R) (hN : N ≤ 600) (hB : B + 10 < 2 ^ 30) {a f i : Nat} (ha : a < 2) (hf : f < 6) (hi : i < kr_sz R (6 * a + f)) (w : Int32) : kb_E (kb_en kz_App_writeWord [.inr (some (19 + 7 * a)), .inl (nI f), .inl (nI i), .inl w] C) (fun q => q.1 = some (.inl 1) ∧ ki_Z (N + 1) (B + 5) q.2 (kr_ch R a f i w)) := by
  have W := op_open h hN hB ha hf hi
  have ha01 : a = 0 ∨ a = 1 := by omega
  rcases ha01 with rfl | rfl
  all_goals
    refine kb_go 60 [] ?_
    refine kb_E_then W (fun v M hq => ?_)
    obtain ⟨s, s1, s2, s3⟩ := ko_change ha hf hi hq w
    dsimp only at s2 s3
    subst s2
    refine kb_E_then s3 (fun v2 M2 hq2 => ?_)
    obtain ⟨t1, t2⟩ := hq2
    dsimp only at t1 t2
    subst t1
    exact And.intro rfl ⟨rfl, t2⟩
set_option maxRecDepth 100000 in
theorem op_writeWord_no {C : kb_M} {a : Nat} (ha : a < 2) {v x : Int32} (W : kb_E (kb_en kz_App_openPartOf [.inr (some (19 + 7 * a)), .inl v, .inl x] C) (fun q => q = (some (.inr none), C))) (w : Int32) : kb_E (kb_en kz_App_writeWord [.inr (some (19 + 7 * a)), .inl v, .inl x, .inl w] C) (fun q => q = (some (.inl 0), C)) := by
  have G := cq_change_no ha C x w
  have ha01 : a = 0 ∨ a = 1 := by omega
  rcases ha01 with rfl | rfl
  all_goals
    refine kb_go 60 [] ?_
    refine kb_E_to W ?_
    refine kb_E_to G ?_
    exact And.intro rfl rfl
set_option maxRecDepth 100000 in
theorem op_readWord {N B : Nat} {C R : kb_M} (h : ki_Z N B C R) (hN : N ≤ 600) (hB : B + 10 < 2 ^ 30) {a f i : Nat} (ha : a < 2) (hf : f < 6) (hi : i < kr_sz R (6 * a + f)) : kb_E (kb_en kz_App_readWord [.inr (some (19 + 7 * a)), .inl (nI f), .inl (nI i)] C) (fun q => q.1 = some (.inl ((kr_op R a (6 * f + i / 4)) 34 (144 * a + 24 * f + i))) ∧ ki_Z (N + 1) (B + 5) q.2 (kr_op R a (6 * f + i / 4))) := by
  have W := op_open h hN hB ha hf hi
  have hi' : i < kr_sz (kr_op R a (6 * f + i / 4)) (6 * a + f) := by
    unfold kr_sz
    rw [kr_op_ne _ _ _ (Or.inr rfl)]
    exact hi
  have h24 := (h.1.1.2.1 (6 * a + f) (by omega)).2
  have G : ∀ M s r, r < 12 → M (23 + 7 * a + s) 0 = nI r → kb_E (kb_en kz_Pool_wordAt [.inr (some 3), .inl (M (23 + 7 * a + s) 0), .inl (nI i - nI i / Int32.ofInt 4 * Int32.ofInt 4)] M) (fun q => q = (some (.inl (M 5 (4 * r + i % 4))), M)) := by
    intro M s r hr hm
    have W := cp_wordAt (Or.inl ⟨rfl, rfl⟩ : kp_P 3 12) M hr (nI (i % 4))
    rw [if_pos (ko_04 i), nI_clamp (by omega), ← ko_rem (by omega)] at W
    rw [hm]
    exact W
  have ha01 : a = 0 ∨ a = 1 := by omega
  rcases ha01 with rfl | rfl
  all_goals
    refine kb_go 60 [] ?_
    refine kb_E_then W (fun v M hq => ?_)
    obtain ⟨s, r, L, s1, s2, s3, s4, s5, s6, s7, s8, s9, s10⟩ := ko_slot ha hf hi' hq
    dsimp only at s3 s4 s5 s6 s8 s10
    subst s3
    have hs01 : s = 0 ∨ s = 1 ∨ s = 2 := by omega
    rcases hs01 with rfl | rfl | rfl
    all_goals
      refine And.intro rfl ?_
      refine kb_E_to (G M _ r s2 s4) ?_
      exact And.intro rfl ⟨by rw [← s10], s5⟩
set_option maxRecDepth 100000 in
theorem op_readWord_no {C : kb_M} {a : Nat} (ha : a < 2) {v x : Int32} (W : kb_E (kb_en kz_App_openPartOf [.inr (some (19 + 7 * a)), .inl v, .inl x] C) (fun q => q = (some (.inr none), C))) : kb_E (kb_en kz_App_readWord [.inr (some (19 + 7 * a)), .inl v, .inl x] C) (fun q => q = (some (.inl 0), C)) := by
  have ha01 : a = 0 ∨ a = 1 := by omega
  rcases ha01 with rfl | rfl
  all_goals
    refine kb_go 60 [] ?_
    refine kb_E_to W ?_
    exact And.intro rfl rfl
