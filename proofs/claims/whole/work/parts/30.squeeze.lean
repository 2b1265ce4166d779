/-! storing a slot, squeeze, length -/
/-- the oldest slot is the first of the order -/
theorem ka_oldest {C R : kb_M} {a : Nat} {L : List Nat} (hL : ki_B C R a L) : ka_old C (19 + 7 * a) = (L[0]?).map (fun s => 23 + 7 * a + s) := by
  obtain ⟨l1, l2, l3, l4, l5, l6⟩ := hL
  obtain ⟨o1, o2⟩ := ka_old_spec C (19 + 7 * a)
  have ez : ∀ s, 19 + 7 * a + 4 + s = 23 + 7 * a + s := fun s => by omega
  have full : ∀ (j s : Nat), L[j]? = some s → C (23 + 7 * a + s) 0 ≠ -1 := by
    intro j s hj
    obtain ⟨-, -, ⟨r, r1, r2, -⟩, -⟩ := l5 j s hj
    rw [r2]
    exact nI_m1 (by omega)
  cases hold : ka_old C (19 + 7 * a) with
  | none =>
    cases h0 : L[0]? with
    | none => rfl
    | some s =>
      have := o1 hold s (l3 s (List.mem_of_getElem? h0))
      rw [ez] at this
      exact absurd this (full 0 s h0)
  | some z =>
    obtain ⟨s, s1, s2, s3, s4⟩ := o2 z hold
    rw [ez] at s2
    subst s2
    have hm : s ∈ L := by
      by_cases hm : s ∈ L
      · exact hm
      · exact absurd (l4 s s1 hm).1 s3
    obtain ⟨j, hj⟩ := List.getElem?_of_mem hm
    have hlen := (List.getElem?_eq_some_iff.mp hj).1
    cases h0 : L[0]? with
    | none =>
      rw [List.getElem?_eq_none_iff] at h0
      omega
    | some y =>
      by_cases hj0 : j = 0
      · rw [hj0, h0] at hj
        cases hj
        rfl
      · have hlt := (l6 0 j y s (by omega) h0 hj).1
        have hle := s4 y (l3 y (List.mem_of_getElem? h0)) (by rw [ez]; exact full 0 y h0)
        rw [ez] at hle
        exact absurd hle (Int32.not_le.mpr hlt)
/-- the counters of the applications -/
theorem kz_cnt {N B : Nat} {C D R S : kb_M} (h : ki_Z N B C R) (J : ki_J N D S) (d1 : D 1 = C 1) (d3 : D 3 = C 3) (d6 : D 6 = C 6) (d9 : ∀ k, 9 ≤ k → k ≤ 18 → D k = C k) (e19 : D 19 3 = C 19 3) (e26 : D 26 3 = C 26 3) (x0 : D 19 0 + D 26 0 = S 33 2) (x1 : D 19 1 + D 26 1 = S 33 1) (s33 : S 33 0 = R 33 0) (s39 : S 39 = R 39) (s40 : S 40 = R 40) (s42 : S 42 = R 42) (s43 : S 43 = R 43) : ki_Z N B D S := by
  obtain ⟨-, ⟨n, n1, n2, n3⟩, ⟨k1, k2, k3, k4, k5⟩, hL, -⟩ := h
  refine ⟨J, ⟨n, by rw [s33]; exact n1, n2, fun g t hg ht hs => ?_⟩, ⟨by rw [d1, s33]; exact k1, by rw [d3]; exact k2, by rw [d6]; exact k3, by rw [e19]; exact k4, by rw [e26]; exact k5⟩, fun g hg => by rw [d9 _ (by omega) (by omega), s40]; exact hL g hg, x0, x1⟩
  unfold kr_bd at ht
  rw [s39] at ht
  rw [s42] at hs
  rw [s43]
  exact n3 g t hg ht hs
theorem kr_so_33 (R : kb_M) (j : Nat) : (kr_so R j) 33 0 = R 33 0 ∧ (kr_so R j) 33 2 = R 33 2 ∧ (kr_so R j) 33 1 = (if R 37 j = 0 then R 33 1 else R 33 1 + 1) := by
  have e : (kr_so R j) 33 = upd (R 33) 1 (if R 37 j = 0 then R 33 1 else R 33 1 + 1) := by unfold kr_so; rw [kb_up_ne _ _ _ (by decide), kb_up_at]
  rw [e]
  exact ⟨pk_un (by decide), pk_un (by decide), pk_us⟩
theorem kr_so_ne (R : kb_M) (j : Nat) {k : Nat} (h1 : k ≠ 33) (h2 : k ≠ 37) : (kr_so R j) k = R k := by
  unfold kr_so
  rw [kb_up_ne _ _ _ h2, kb_up_ne _ _ _ h1]
/-- storeIfChanged of the slot at place j -/
theorem kz_store {N B : Nat} {C R : kb_M} (h : ki_Z N B C R) {a : Nat} (ha : a < 2) {L : List Nat} (hL : ki_B C R a L) {j s : Nat} (hj : L[j]? = some s) : kb_E (kb_en kz_App_storeIfChanged [.inr (some (19 + 7 * a)), .inr (some (23 + 7 * a + s))] C) (fun q => q.1 = none ∧ ki_Z N B q.2 (kr_so R (3 * a + j)) ∧ ki_B q.2 (kr_so R (3 * a + j)) a L ∧ (∀ k, k ≠ 8 → k ≠ 19 + 7 * a → k ≠ 23 + 7 * a + s → q.2 k = C k) ∧ (∀ k, k ≠ 1 → q.2 (19 + 7 * a) k = C (19 + 7 * a) k) ∧ (∀ k, k ≠ 3 → q.2 (23 + 7 * a + s) k = C (23 + 7 * a + s) k) ∧ q.2 (23 + 7 * a + s) 3 = 0) := by
  have hR := h.1.1
  obtain ⟨hs3, hj3, r, f, p, w, g1, g2, g3, g4, g5, g6, g7, g8, g9, g10, g11⟩ := ka_slot (h.1.2.2.2.2.2 a ha) hR ha hL hj
  have hc3 : C (23 + 7 * a + s) 3 = R 37 (3 * a + j) := (hL.2.2.2.2.1 j s hj).2.1
  have hz : kq_S (19 + 7 * a) (23 + 7 * a + s) := by unfold kq_S; omega
  by_cases hch : R 37 (3 * a + j) = 0
  · refine kb_E_to (cq_store_no (kq_in ha) hz C (hc3.trans hch)) ?_
    rw [kr_so_same hch]
    exact ⟨rfl, h, hL, fun _ _ _ _ => rfl, fun _ _ => rfl, fun _ _ => rfl, hc3.trans hch⟩
  · obtain ⟨J, hB⟩ := ka_store h.1 ha hL hj g1 g2 g4 g5 g8 g9 g10 hch
    refine kb_E_to (cq_store (kq_in ha) hz C g1 g2 (by omega) g8 g9 (by rw [show 19 + 7 * a + 2 = 21 + 7 * a by omega]; exact g10) (by rw [hc3]; exact hch)) ?_
    have dc : (ka_st C (19 + 7 * a) (23 + 7 * a + s) r w) (19 + 7 * a) = upd (C (19 + 7 * a)) 1 (C (19 + 7 * a) 1 + 1) := by unfold ka_st kp_cp; rw [kb_up_at, kb_up_ne _ _ _ (by omega), kb_ro_ne _ _ (by omega)]
    have dz : (ka_st C (19 + 7 * a) (23 + 7 * a + s) r w) (23 + 7 * a + s) = upd (C (23 + 7 * a + s)) 3 0 := by unfold ka_st kp_cp; rw [kb_up_ne _ _ _ (by omega), kb_up_at, kb_ro_ne _ _ (by omega)]
    have dn : ∀ k, k ≠ 8 → k ≠ 19 + 7 * a → k ≠ 23 + 7 * a + s → (ka_st C (19 + 7 * a) (23 + 7 * a + s) r w) k = C k := fun k q1 q2 q3 => by unfold ka_st kp_cp; rw [kb_up_ne _ _ _ q2, kb_up_ne _ _ _ q3, kb_ro_ne _ _ q1]
    obtain ⟨r0, r1, r2⟩ := kr_so_33 R (3 * a + j)
    rw [if_neg hch] at r2
    obtain ⟨x0, x1⟩ := h.2.2.2.2
    have o19 : ∀ k, k ≠ 1 → (ka_st C (19 + 7 * a) (23 + 7 * a + s) r w) 19 k = C 19 k := by
      intro k hk
      by_cases ha0 : a = 0
      · subst ha0
        show (ka_st C (19 + 7 * 0) (23 + 7 * 0 + s) r w) (19 + 7 * 0) k = C (19 + 7 * 0) k
        rw [dc, pk_un hk]
      · rw [dn 19 (by omega) (by omega) (by omega)]
    have o26 : ∀ k, k ≠ 1 → (ka_st C (19 + 7 * a) (23 + 7 * a + s) r w) 26 k = C 26 k := by
      intro k hk
      by_cases ha1 : a = 1
      · subst ha1
        show (ka_st C (19 + 7 * 1) (23 + 7 * 1 + s) r w) (19 + 7 * 1) k = C (19 + 7 * 1) k
        rw [dc, pk_un hk]
      · rw [dn 26 (by omega) (by omega) (by omega)]
    have sum1 : (ka_st C (19 + 7 * a) (23 + 7 * a + s) r w) 19 1 + (ka_st C (19 + 7 * a) (23 + 7 * a + s) r w) 26 1 = C 19 1 + C 26 1 + 1 := by
      have ha01 : a = 0 ∨ a = 1 := by omega
      rcases ha01 with rfl | rfl
      · have e1 : (ka_st C (19 + 7 * 0) (23 + 7 * 0 + s) r w) 19 = upd (C 19) 1 (C 19 1 + 1) := dc
        rw [e1, pk_us, dn 26 (by omega) (by omega) (by omega), Int32.add_assoc, Int32.add_comm 1, ← Int32.add_assoc]
      · have e1 : (ka_st C (19 + 7 * 1) (23 + 7 * 1 + s) r w) 26 = upd (C 26) 1 (C 26 1 + 1) := dc
        rw [e1, pk_us, dn 19 (by omega) (by omega) (by omega), ← Int32.add_assoc]
    dsimp only
    refine ⟨rfl, ?_, hB, dn, fun k hk => by rw [dc, pk_un hk], fun k hk => by rw [dz, pk_un hk], by rw [dz]; exact pk_us⟩
    refine kz_cnt h J (dn 1 (by omega) (by omega) (by omega)) (dn 3 (by omega) (by omega) (by omega)) (dn 6 (by omega) (by omega) (by omega)) (fun k q1 q2 => dn k (by omega) (by omega) (by omega)) (o19 3 (by decide)) (o26 3 (by decide)) ?_ ?_ r0 (kr_so_ne _ _ (by decide) (by decide)) (kr_so_ne _ _ (by decide) (by decide)) (kr_so_ne _ _ (by decide) (by decide)) (kr_so_ne _ _ (by decide) (by decide))
    · rw [o19 0 (by decide), o26 0 (by decide), r1]; exact x0
    · rw [sum1, r2, x1]
/-- a clean slot leaves: with the rest -/
theorem kz_out {N B : Nat} {C R : kb_M} (h : ki_Z N B C R) {a : Nat} (ha : a < 2) {L : List Nat} (hL : ki_B C R a L) {j s r : Nat} (hj : L[j]? = some s) (hr : r < 12) (hfr : C (23 + 7 * a + s) 0 = nI r) (hch : R 37 (3 * a + j) = 0) : ki_Z N B (ka_gf C (23 + 7 * a + s) r) (kr_rm R a j) ∧ ki_B (ka_gf C (23 + 7 * a + s) r) (kr_rm R a j) a (L.eraseIdx j) := by
  obtain ⟨J, hB⟩ := ka_out h.1 ha hL hj hr hfr hch
  have hs3 := hL.2.2.1 s (List.mem_of_getElem? hj)
  have dn : ∀ k, k ≠ 4 → k ≠ 23 + 7 * a + s → (ka_gf C (23 + 7 * a + s) r) k = C k := fun k q1 q2 => by unfold ka_gf; rw [kb_up_ne _ _ _ q2, kb_up_ne _ _ _ q2, kb_up_ne _ _ _ q2, kb_up_ne _ _ _ q1]
  obtain ⟨sn, -, -, -⟩ := kr_rm_rows R a j
  have s33 := sn 33 (by decide) (by decide) (by decide)
  obtain ⟨x0, x1⟩ := h.2.2.2.2
  have e19 := dn 19 (by omega) (by omega)
  have e26 := dn 26 (by omega) (by omega)
  refine ⟨kz_cnt h J (dn 1 (by omega) (by omega)) (dn 3 (by omega) (by omega)) (dn 6 (by omega) (by omega)) (fun k q1 q2 => dn k (by omega) (by omega)) (by rw [e19]) (by rw [e26]) (by rw [e19, e26, s33]; exact x0) (by rw [e19, e26, s33]; exact x1) (by rw [s33]) (sn 39 (by decide) (by decide) (by decide)) (sn 40 (by decide) (by decide) (by decide)) (sn 42 (by decide) (by decide) (by decide)) (sn 43 (by decide) (by decide) (by decide)), hB⟩
set_option maxRecDepth 100000 in
theorem op_appOf (C : kb_M) {a : Nat} (ha : a < 2) : kb_E (kb_en kz_BK_applicationOf [.inr (some 0), .inl (nI a)] C) (fun q => q = (some (.inr (some (19 + 7 * a))), C)) := by
  refine kb_go 40 [] ?_
  match a, ha with
  | 0, _ =>
    refine And.intro (fun h => absurd h (by decide)) (fun _ => ?_)
    exact And.intro (fun h => absurd h (by decide)) (fun _ => And.intro rfl (And.intro rfl rfl))
  | 1, _ =>
    refine And.intro (fun h => absurd h (by decide)) (fun _ => ?_)
    exact And.intro (fun h => absurd h (by decide)) (fun _ => And.intro rfl (And.intro rfl rfl))
theorem kr_i2 {i : Int32} : (0 ≤ i ∧ i < 2) ↔ (0 ≤ i ∧ i ≤ 1) := by
  constructor
  · intro h
    obtain ⟨k, hk, rfl⟩ := nI_of (Int32.not_lt.mpr h.1)
    have h2 : nI k < nI 2 := h.2
    rw [nI_ltI hk (by omega)] at h2
    exact kr_out (n := 1) (by omega) (by omega)
  · intro h
    obtain ⟨k, hk, rfl⟩ := kr_in i (n := 1) (by decide) h
    exact ⟨h.1, nI_lt (b := 2) (by omega) (by omega)⟩
set_option maxRecDepth 100000 in
theorem op_appOf_no (C : kb_M) {v : Int32} (hv : ¬ (0 ≤ v ∧ v ≤ 1)) : kb_E (kb_en kz_BK_applicationOf [.inr (some 0), .inl v] C) (fun q => q = (some (.inr none), C)) := by
  refine kb_go 40 [] ?_
  refine And.intro (fun _ => And.intro rfl rfl) (fun h => ?_)
  have h : ¬ v < 0 := of_decide_eq_false h
  refine And.intro (fun _ => And.intro rfl rfl) (fun h2 => ?_)
  have h2 : ¬ 2 ≤ v := of_decide_eq_false h2
  exact absurd (kr_i2.mp ⟨Int32.not_lt.mp h, Int32.not_le.mp h2⟩) hv
set_option maxRecDepth 100000 in
theorem op_giveUp {N B : Nat} {C R : kb_M} (h : ki_Z N B C R) {a : Nat} (ha : a < 2) : kb_E (kb_en kz_App_giveUpOldestFrame [.inr (some (19 + 7 * a))] C) (fun q => ∃ y, (y = 0 ∨ y = 1) ∧ q.1 = some (.inl y) ∧ some (.inl y) = (kr_sq R a).1 ∧ ki_Z N B q.2 (kr_sq R a).2) := by
  obtain ⟨L, hL⟩ := (h.1.2.2.2.2.2 a ha).2.2.2.1
  have O := cq_oldest (kq_in ha) C
  rw [ka_oldest hL] at O
  have hlen := hL.1
  unfold kr_sq
  cases h0 : L[0]? with
  | none =>
    rw [h0] at O
    rw [List.getElem?_eq_none_iff] at h0
    rw [if_pos (by omega)]
    match a, ha with
    | 0, _ =>
      refine kb_go 40 [] ?_
      refine kb_E_to O ?_
      exact And.intro rfl ⟨0, Or.inl rfl, rfl, rfl, h⟩
    | 1, _ =>
      refine kb_go 40 [] ?_
      refine kb_E_to O ?_
      exact And.intro rfl ⟨0, Or.inl rfl, rfl, rfl, h⟩
  | some s =>
    rw [h0] at O
    have hlt := (List.getElem?_eq_some_iff.mp h0).1
    rw [if_neg (by omega)]
    have hs3 := hL.2.2.1 s (List.mem_of_getElem? h0)
    obtain ⟨-, -, r, -, -, -, g1, g2, -⟩ := ka_slot (h.1.2.2.2.2.2 a ha) h.1.1 ha hL h0
    have S := kz_store h ha hL h0
    -- behind the store
    have fin : ∀ M, ki_Z N B M (kr_so R (3 * a + 0)) ∧ ki_B M (kr_so R (3 * a + 0)) a L ∧ M (23 + 7 * a + s) 0 = nI r → kb_E (kb_en kz_App_giveFrameBack [.inr (some (19 + 7 * a)), .inr (some (23 + 7 * a + s))] M) (fun q => q.1 = none ∧ ki_Z N B q.2 (kr_rm (kr_so R (3 * a)) a 0)) := by
      intro M ⟨m1, m2, m3⟩
      refine kb_E_to (cq_giveFrameBack (kq_in ha) (by unfold kq_S; omega) M g1 m3) ⟨rfl, ?_⟩
      refine (kz_out m1 ha m2 h0 g1 m3 ?_).1
      unfold kr_so
      rw [kb_up_at]
      exact pk_us
    have ha01 : a = 0 ∨ a = 1 := by omega
    have hs01 : s = 0 ∨ s = 1 ∨ s = 2 := by omega
    rcases ha01 with rfl | rfl <;> rcases hs01 with rfl | rfl | rfl
    all_goals
      refine kb_go 40 [] ?_
      refine kb_E_to O ?_
      refine kb_E_then S (fun v M hq => ?_)
      obtain ⟨q1, q2, q3, q4, q5, q6, q7⟩ := hq
      dsimp only at q1 q2 q3 q4 q5 q6 q7
      subst q1
      refine kb_E_then (fin M ⟨q2, q3, by rw [q6 0 (by decide)]; exact g2⟩) (fun v2 M2 hq2 => ?_)
      obtain ⟨t1, t2⟩ := hq2
      dsimp only at t1 t2
      subst t1
      exact And.intro rfl ⟨1, Or.inr rfl, rfl, rfl, t2⟩
set_option maxRecDepth 100000 in
theorem op_squeeze {N : Nat} {C R : kb_M} (h : ki_V N C R) {a : Nat} (ha : a < 2) : kb_E (kb_en kz_BK_squeeze [.inr (some 0), .inl (nI a)] C) (fun q => q.1 = (kr_sq R a).1 ∧ ki_V N q.2 (kr_sq R a).2) := by
  have W := op_giveUp (kz_V.mp h) ha
  refine kb_go 40 [] ?_
  refine kb_E_to (op_appOf C ha) ?_
  have ha01 : a = 0 ∨ a = 1 := by omega
  rcases ha01 with rfl | rfl
  all_goals
    refine kb_E_then W (fun v M hq => ?_)
    obtain ⟨y, y1, y2, y3, y4⟩ := hq
    dsimp only at y2 y4
    subst y2
    rcases y1 with rfl | rfl
    · exact And.intro (fun _ => And.intro rfl ⟨y3, y4⟩) (fun h => absurd h (by decide))
    · exact And.intro (fun h => absurd h (by decide)) (fun _ => And.intro rfl ⟨y3, y4⟩)
set_option maxRecDepth 100000 in
theorem op_squeeze_no {C : kb_M} {v : Int32} (hv : ¬ (0 ≤ v ∧ v ≤ 1)) : kb_E (kb_en kz_BK_squeeze [.inr (some 0), .inl v] C) (fun q => q = (some (.inl 0), C)) := by
  refine kb_go 40 [] ?_
  refine kb_E_to (op_appOf_no C hv) ?_
  exact And.intro rfl rfl
