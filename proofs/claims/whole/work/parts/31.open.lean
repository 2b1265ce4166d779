/-! a part is opened -/
theorem ka_so_spec (C : kb_M) (c : Nat) (p : Int32) : (ka_so C c p = none → ∀ s, s < 3 → C (c + 4 + s) 1 ≠ p) ∧ (∀ z, ka_so C c p = some z → ∃ s, s < 3 ∧ z = c + 4 + s ∧ C z 1 = p) := by
  unfold ka_so
  by_cases h0 : C (c + 4) 1 = p
  · rw [if_pos h0]
    exact ⟨fun q => (by cases q), fun z hz => ⟨0, by decide, (Option.some.inj hz).symm, by rw [← Option.some.inj hz]; exact h0⟩⟩
  · rw [if_neg h0]
    by_cases h1 : C (c + 5) 1 = p
    · rw [if_pos h1]
      exact ⟨fun q => (by cases q), fun z hz => ⟨1, by decide, (Option.some.inj hz).symm, by rw [← Option.some.inj hz]; exact h1⟩⟩
    · rw [if_neg h1]
      by_cases h2 : C (c + 6) 1 = p
      · rw [if_pos h2]
        exact ⟨fun q => (by cases q), fun z hz => ⟨2, by decide, (Option.some.inj hz).symm, by rw [← Option.some.inj hz]; exact h2⟩⟩
      · rw [if_neg h2]
        refine ⟨fun _ s hs => ?_, fun z hz => (by cases hz)⟩
        match s, hs with
        | 0, _ => exact h0
        | 1, _ => exact h1
        | 2, _ => exact h2
def ka_sf (C : kb_M) (c : Nat) (p : Int32) : Option Nat := match ka_so C c p with
  | some z => some z
  | none => match ka_so C c (-1) with
    | some z => some z
    | none => ka_old C c
set_option maxRecDepth 100000 in
theorem cq_slotFor {c : Nat} (hc : kq_P c) (C : kb_M) (p : Int32) : kb_E (kb_en kz_App_slotFor [.inr (some c), .inl p] C) (fun q => q = (some (.inr (ka_sf C c p)), C)) := by
  have S1 := cq_slotOf hc C p
  have S2 := cq_slotOf hc C (-1)
  have O := cq_oldest hc C
  unfold ka_sf
  cases h1 : ka_so C c p with
  | some z =>
    rw [h1] at S1
    rcases hc with rfl | rfl
    all_goals
      refine kb_go 40 [] ?_
      refine kb_E_to S1 ?_
      exact And.intro rfl rfl
  | none =>
    rw [h1] at S1
    cases h2 : ka_so C c (-1) with
    | some z =>
      rw [h2] at S2
      rcases hc with rfl | rfl
      all_goals
        refine kb_go 40 [] ?_
        refine kb_E_to S1 ?_
        refine kb_E_to S2 ?_
        exact And.intro rfl rfl
    | none =>
      rw [h2] at S2
      rcases hc with rfl | rfl
      all_goals
        refine kb_go 40 [] ?_
        refine kb_E_to S1 ?_
        refine kb_E_to S2 ?_
        refine kb_E_to O ?_
        exact And.intro rfl rfl
/-- a cached part's slot is found -/
theorem ka_sf_hit {C R : kb_M} {a : Nat} {L : List Nat} (hL : ki_B C R a L) {j s : Nat} (hj : L[j]? = some s) {q : Nat} (hq : q < 36) (hp : R 36 (3 * a + j) = nI q) : ka_sf C (19 + 7 * a) (nI q) = some (23 + 7 * a + s) := by
  obtain ⟨l1, l2, l3, l4, l5, l6⟩ := hL
  have ez : ∀ s, 19 + 7 * a + 4 + s = 23 + 7 * a + s := fun s => by omega
  obtain ⟨o1, o2⟩ := ka_so_spec C (19 + 7 * a) (nI q)
  unfold ka_sf
  cases h1 : ka_so C (19 + 7 * a) (nI q) with
  | none =>
    exfalso
    have := o1 h1 s (l3 s (List.mem_of_getElem? hj))
    rw [ez] at this
    exact this ((l5 j s hj).1.trans hp)
  | some z =>
    obtain ⟨y, y1, y2, y3⟩ := o2 z h1
    rw [ez] at y2
    subst y2
    have hm : y ∈ L := by
      by_cases hm : y ∈ L
      · exact hm
      · rw [(l4 y y1 hm).2.1] at y3
        exact absurd y3.symm (nI_m1 (by omega))
    obtain ⟨i, hi⟩ := List.getElem?_of_mem hm
    have hpi := (l5 i y hi).1.symm.trans y3
    by_cases hij : i = j
    · rw [hij, hj] at hi
      cases hi
      rfl
    · exfalso
      by_cases hlt : i < j
      · exact (l6 i j y s hlt hi hj).2.1 (hpi.trans hp.symm)
      · exact (l6 j i s y (by omega) hj hi).2.1 (hp.trans hpi.symm)
/-- a part that isn't cached: an empty slot, or the oldest -/
theorem ka_sf_miss {C R : kb_M} {a : Nat} {L : List Nat} (hL : ki_B C R a L) {q : Nat} (hq : q < 36) (hno : ∀ j, j < kr_fr R a → R 36 (3 * a + j) ≠ nI q) : (L.length < 3 → ∃ s, s < 3 ∧ s ∉ L ∧ ka_sf C (19 + 7 * a) (nI q) = some (23 + 7 * a + s)) ∧ (¬ L.length < 3 → ka_sf C (19 + 7 * a) (nI q) = (L[0]?).map (fun s => 23 + 7 * a + s)) := by
  have hold := ka_oldest hL
  obtain ⟨l1, l2, l3, l4, l5, l6⟩ := hL
  have ez : ∀ s, 19 + 7 * a + 4 + s = 23 + 7 * a + s := fun s => by omega
  have h1 : ka_so C (19 + 7 * a) (nI q) = none := by
    obtain ⟨o1, o2⟩ := ka_so_spec C (19 + 7 * a) (nI q)
    cases h1 : ka_so C (19 + 7 * a) (nI q) with
    | none => rfl
    | some z =>
      exfalso
      obtain ⟨y, y1, y2, y3⟩ := o2 z h1
      rw [ez] at y2
      subst y2
      by_cases hm : y ∈ L
      · obtain ⟨i, hi⟩ := List.getElem?_of_mem hm
        exact hno i (by rw [← l1]; exact (List.getElem?_eq_some_iff.mp hi).1) ((l5 i y hi).1.symm.trans y3)
      · rw [(l4 y y1 hm).2.1] at y3
        exact nI_m1 (by omega) y3.symm
  obtain ⟨o1, o2⟩ := ka_so_spec C (19 + 7 * a) (-1)
  have mem_part : ∀ y, y ∈ L → C (23 + 7 * a + y) 1 ≠ -1 := by
    intro y hy
    obtain ⟨i, hi⟩ := List.getElem?_of_mem hy
    obtain ⟨m1, -, -, ⟨f, p, f1, f2, f3, f4⟩, -⟩ := l5 i y hi
    rw [m1, f4]
    exact nI_m1 (by omega)
  have full : ¬ L.length < 3 → ∀ y, y < 3 → y ∈ L := by
    intro hlen y hy
    match L, hlen, l2, l3 with
    | x :: x2 :: x3 :: L', _, hnd, h3 =>
      have a1 := h3 x (by simp)
      have a2 := h3 x2 (by simp)
      have a3 := h3 x3 (by simp)
      simp only [List.nodup_cons, List.mem_cons, not_or] at hnd
      have : y = x ∨ y = x2 ∨ y = x3 := by omega
      rcases this with rfl | rfl | rfl <;> simp
    | [], hlen, _, _ => exact absurd (by simp) hlen
    | [_], hlen, _, _ => exact absurd (by simp) hlen
    | [_, _], hlen, _, _ => exact absurd (by simp) hlen
  unfold ka_sf
  rw [h1]
  refine ⟨fun hlen => ?_, fun hlen => ?_⟩
  · cases h2 : ka_so C (19 + 7 * a) (-1) with
    | some z =>
      obtain ⟨y, y1, y2, y3⟩ := o2 z h2
      rw [ez] at y2
      subst y2
      exact ⟨y, y1, fun q => mem_part y q y3, rfl⟩
    | none =>
      exfalso
      have all : ∀ y, y < 3 → y ∈ L := by
        intro y hy
        by_cases hm : y ∈ L
        · exact hm
        · have := o1 h2 y hy
          rw [ez] at this
          exact absurd (l4 y hy hm).2.1 this
      have b0 := all 0 (by decide)
      have b1 := all 1 (by decide)
      have b2 := all 2 (by decide)
      match L, hlen, b0, b1, b2 with
      | [], _, b0, _, _ => cases b0
      | [x], _, b0, b1, _ =>
        have c0 := List.mem_singleton.mp b0
        have c1 := List.mem_singleton.mp b1
        omega
      | [x, x2], _, b0, b1, b2 =>
        simp only [List.mem_cons, List.not_mem_nil, or_false] at b0 b1 b2
        omega
  · cases h2 : ka_so C (19 + 7 * a) (-1) with
    | some z =>
      exfalso
      obtain ⟨y, y1, y2, y3⟩ := o2 z h2
      rw [ez] at y2
      subst y2
      exact mem_part y (full hlen y y1) y3
    | none => exact hold
/-- the slot is marked as used -/
def ka_fin (M : kb_M) (c z : Nat) : kb_M := kb_up (kb_up M c 7 (M c 7 + 1)) z 2 (M c 7 + 1)
set_option maxRecDepth 100000 in
theorem cq_tail1 {c z : Nat} (hc : kq_P c) (hz : kq_S c z) (C : kb_M) {p : Int32} (x1 x2 : Option kb_v) (h0 : C z 0 ≠ -1) (h1 : C z 1 = p) : kb_E (kz_App_openPartOf, 46, [some (.inr (some c)), x1, x2, some (.inl p), some (.inr (some z))], [], C) (fun q => q = (some (.inr (some z)), ka_fin C c z)) := by
  have E := cq_isEmpty hc hz C
  rw [if_neg h0] at E
  have e7 : (kb_up C c 7 (C c 7 + 1)) c 7 = C c 7 + 1 := by rw [kb_up_at]; exact pk_us
  unfold ka_fin
  rcases hc with rfl | rfl <;> rcases hz with rfl | rfl | rfl
  all_goals
    refine kb_go 60 [] ?_
    refine kb_E_to E ?_
    refine And.intro (fun _ => ?_) (fun h => absurd h (by decide))
    refine And.intro (fun _ => ?_) (fun h => absurd h1 (of_decide_eq_false h))
    refine And.intro rfl ?_
    show (some (Sum.inr _), kb_up (kb_up C _ 7 (C _ 7 + 1)) _ 2 ((kb_up C _ 7 (C _ 7 + 1)) _ 7)) = _
    rw [e7]
set_option maxRecDepth 100000 in
theorem cq_tail4 {c z r q w : Nat} (hc : kq_P c) (hz : kq_S c z) (M : kb_M) (x1 x2 : Option kb_v) (hr : r < 12) (hf : M z 0 = nI r) (hq : q < 36) (hw : w < 24) (hb : M (c + 2) q = nI w) : kb_E (kz_App_openPartOf, 86, [some (.inr (some c)), x1, x2, some (.inl (nI q)), some (.inr (some z))], [], M) (fun t => t = (some (.inr (some z)), ka_fin (ka_ld M c z r w (nI q)) c z)) := by
  have Ld := cq_load hc hz M hr hf hq hw hb
  generalize ka_ld M c z r w (nI q) = K at Ld ⊢
  have e7 : (kb_up K c 7 (K c 7 + 1)) c 7 = K c 7 + 1 := by rw [kb_up_at]; exact pk_us
  unfold ka_fin
  rcases hc with rfl | rfl <;> rcases hz with rfl | rfl | rfl
  all_goals
    refine kb_go 60 [] ?_
    refine kb_E_to Ld ?_
    refine And.intro rfl ?_
    show (some (Sum.inr _), kb_up (kb_up K _ 7 (K _ 7 + 1)) _ 2 ((kb_up K _ 7 (K _ 7 + 1)) _ 7)) = _
    rw [e7]
