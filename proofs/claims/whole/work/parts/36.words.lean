/-! read, write, length -/
theorem kr_o2_ne (R : kb_M) (a : Nat) {k : Nat} (h : k = 34 ∨ k = 35) : (kr_o2 R a) k = R k := by
  unfold kr_o2
  rw [kb_up_ne _ _ _ (by omega)]
  unfold kr_o1
  split
  next => rw [(kr_rm_rows _ _ _).1 k (by omega) (by omega) (by omega), kr_so_ne _ _ (by omega) (by omega)]
  next => exact kr_cm_ne R 0 (by omega) (by omega) (by omega) (by omega)
theorem kr_op_ne (R : kb_M) (a p : Nat) {k : Nat} (h : k = 34 ∨ k = 35) : (kr_op R a p) k = R k := by
  unfold kr_op
  cases kr_fi R a (nI p) (kr_fr R a) with
  | some j =>
    show (kr_ad (kr_rm R a j) a (nI p) (R 37 (3 * a + j))) k = R k
    rw [(kr_ad_rows _ _ _ _).1 k (by omega) (by omega) (by omega), (kr_rm_rows _ _ _).1 k (by omega) (by omega) (by omega)]
  | none =>
    show (kr_ad (kr_o2 R a) a (nI p) 0) k = R k
    rw [(kr_ad_rows _ _ _ _).1 k (by omega) (by omega) (by omega), kr_o2_ne R a h]
theorem ko_rem {i : Nat} (hi : i < 24) : nI i - nI i / Int32.ofInt 4 * Int32.ofInt 4 = nI (i % 4) := by
  rw [show Int32.ofInt 4 = nI 4 from rfl, pk_rem (by omega) (by omega) (by omega)]
theorem ko_04 (i : Nat) : 0 ≤ nI (i % 4) ∧ nI (i % 4) < 4 := ⟨nI_pos' (by omega), nI_lt (b := 4) (by omega) (by omega)⟩
set_option maxRecDepth 100000 in
theorem cq_change {a s r i : Nat} (ha : a < 2) (hs : s < 3) (C : kb_M) (w : Int32) (hr : r < 12) (hf : C (23 + 7 * a + s) 0 = nI r) (hi : i < 24) : kb_E (kb_en kz_App_changeWord [.inr (some (19 + 7 * a)), .inr (some (23 + 7 * a + s)), .inl (nI i), .inl w] C) (fun q => q = (some (.inl 1), kb_up (kb_up C (23 + 7 * a + s) 3 1) 5 (4 * r + i % 4) w)) := by
  have W := cp_setWord (Or.inl ⟨rfl, rfl⟩ : kp_P 3 12) (kb_up C (23 + 7 * a + s) 3 1) hr (nI (i % 4)) w
  rw [if_pos (ko_04 i), nI_clamp (by omega), ← ko_rem hi] at W
  have e0 : (kb_up C (23 + 7 * a + s) 3 1) (23 + 7 * a + s) 0 = nI r := by rw [kb_up_at, pk_un (by decide)]; exact hf
  rw [← e0] at W
  have ha01 : a = 0 ∨ a = 1 := by omega
  have hs01 : s = 0 ∨ s = 1 ∨ s = 2 := by omega
  rcases ha01 with rfl | rfl <;> rcases hs01 with rfl | rfl | rfl
  all_goals
    refine kb_go 60 [] ?_
    refine And.intro rfl (And.intro rfl ?_)
    refine kb_E_to W ?_
    exact And.intro rfl rfl
set_option maxRecDepth 100000 in
theorem cq_change_no {a : Nat} (ha : a < 2) (C : kb_M) (i w : Int32) : kb_E (kb_en kz_App_changeWord [.inr (some (19 + 7 * a)), .inr none, .inl i, .inl w] C) (fun q => q = (some (.inl 0), C)) := by
  have ha01 : a = 0 ∨ a = 1 := by omega
  rcases ha01 with rfl | rfl
  all_goals
    refine kb_go 60 [] ?_
    exact And.intro rfl rfl
/-- what the slot of an opened part is -/
theorem ko_slot {N B : Nat} {S : kb_M} {a f i : Nat} {t : kb_R} (ha : a < 2) (hf : f < 6) (hi : i < kr_sz S (6 * a + f)) (h : ko_P N B S a (6 * f + i / 4) t) : ∃ s r L, s < 3 ∧ r < 12 ∧ t.1 = some (.inr (some (23 + 7 * a + s))) ∧ t.2 (23 + 7 * a + s) 0 = nI r ∧ ki_Z N B t.2 S ∧ ki_B t.2 S a L ∧ L[kr_fr S a - 1]? = some s ∧ t.2 (23 + 7 * a + s) 1 = nI (6 * f + i / 4) ∧ 0 < kr_fr S a ∧ t.2 5 (4 * r + i % 4) = S 34 (144 * a + 24 * f + i) := by
  obtain ⟨s, L, s1, s2, s3, s4, s5, s6⟩ := h
  have hA := s3.1.2.2.2.2.2 a ha
  have hR := s3.1.1
  have h24 := (hR.2.1 (6 * a + f) (by omega)).2
  have hpos : 0 < kr_fr S a := by
    have := (List.getElem?_eq_some_iff.mp s5).1
    have := s4.1
    omega
  obtain ⟨-, -, r, -, -, -, g1, g2, -⟩ := ka_slot hA hR ha s4 s5
  have e1 : t.2 (23 + 7 * a + s) 1 = nI (6 * f + i / 4) := by
    rw [(s4.2.2.2.2.1 _ s s5).1, ← s6]
    congr 1
    omega
  obtain ⟨w, w1, w2, w3⟩ := hA.2.2.1.1 f (i / 4) hf (by omega) (by omega)
  have v := ((hA.2.2.2.2 f i w hf hi w2 w1).1 s r s1 e1 g2 g1).1
  exact ⟨s, r, L, s1, g1, s2, g2, s3, s4, s5, e1, hpos, v⟩
theorem kz_write {N B : Nat} {C R : kb_M} (h : ki_Z N B C R) {a : Nat} (ha : a < 2) {L : List Nat} (hL : ki_B C R a L) {j s r f i : Nat} (w : Int32) (hj : L[j]? = some s) (hr : r < 12) (hfr : C (23 + 7 * a + s) 0 = nI r) (hf : f < 6) (hi : i < kr_sz R (6 * a + f)) (hpt : C (23 + 7 * a + s) 1 = nI (6 * f + i / 4)) : ki_Z N B (kb_up (kb_up C (23 + 7 * a + s) 3 1) 5 (4 * r + i % 4) w) (kb_up (kb_up R 34 (144 * a + 24 * f + i) w) 37 (3 * a + j) 1) := by
  have hs3 := hL.2.2.1 s (List.mem_of_getElem? hj)
  obtain ⟨J, -⟩ := ka_write h.1 ha hL w hj hr hfr hf hi hpt
  have dn : ∀ k, k ≠ 5 → k ≠ 23 + 7 * a + s → (kb_up (kb_up C (23 + 7 * a + s) 3 1) 5 (4 * r + i % 4) w) k = C k := fun k q1 q2 => by rw [kb_up_ne _ _ _ q1, kb_up_ne _ _ _ q2]
  have sn : ∀ k, k ≠ 34 → k ≠ 37 → (kb_up (kb_up R 34 (144 * a + 24 * f + i) w) 37 (3 * a + j) 1) k = R k := fun k q1 q2 => by rw [kb_up_ne _ _ _ q2, kb_up_ne _ _ _ q1]
  have e19 := dn 19 (by omega) (by omega)
  have e26 := dn 26 (by omega) (by omega)
  have s33 := sn 33 (by decide) (by decide)
  obtain ⟨x0, x1⟩ := h.2.2.2.2
  exact kz_cnt h J (dn 1 (by omega) (by omega)) (dn 3 (by omega) (by omega)) (dn 6 (by omega) (by omega)) (fun k q1 q2 => dn k (by omega) (by omega)) (by rw [e19]) (by rw [e26]) (by rw [e19, e26, s33]; exact x0) (by rw [e19, e26, s33]; exact x1) (by rw [s33]) (sn 39 (by decide) (by decide)) (sn 40 (by decide) (by decide)) (sn 42 (by decide) (by decide)) (sn 43 (by decide) (by decide))
/-- open and change -/
theorem ko_change {N B : Nat} {R : kb_M} {a f i : Nat} {t : kb_R} (ha : a < 2) (hf : f < 6) (hi : i < kr_sz R (6 * a + f)) (h : ko_P N B (kr_op R a (6 * f + i / 4)) a (6 * f + i / 4) t) (w : Int32) : ∃ s, s < 3 ∧ t.1 = some (.inr (some (23 + 7 * a + s))) ∧ kb_E (kb_en kz_App_changeWord [.inr (some (19 + 7 * a)), .inr (some (23 + 7 * a + s)), .inl (nI i), .inl w] t.2) (fun q => q.1 = some (.inl 1) ∧ ki_Z N B q.2 (kr_ch R a f i w)) := by
  have hi' : i < kr_sz (kr_op R a (6 * f + i / 4)) (6 * a + f) := by
    unfold kr_sz
    rw [kr_op_ne _ _ _ (Or.inr rfl)]
    exact hi
  obtain ⟨s, r, L, s1, s2, s3, s4, s5, s6, s7, s8, s9, s10⟩ := ko_slot ha hf hi' h
  have h24 := (s5.1.1.2.1 (6 * a + f) (by omega)).2
  refine ⟨s, s1, s3, kb_E_to (cq_change ha s1 t.2 w s2 s4 (by omega)) ⟨rfl, ?_⟩⟩
  have Z := kz_write s5 ha s6 w s7 s2 s4 hf hi' s8
  rw [show 3 * a + (kr_fr (kr_op R a (6 * f + i / 4)) a - 1) = 3 * a + kr_fr (kr_op R a (6 * f + i / 4)) a - 1 by omega] at Z
  exact Z
