/-! appendWord against the reference's append -/
def kp_app (N B : Nat) (R : kb_M) (a f : Nat) (w : Int32) (q : kb_R) : Prop := ∃ y, (y = 0 ∨ y = 1) ∧ q.1 = some (.inl y) ∧ (kr_app R a f w).1 = some (.inl y) ∧ ki_Z (N + 1) (B + 10) q.2 (kr_app R a f w).2
set_option maxHeartbeats 1000000 in
theorem op_appendHit {N B : Nat} {C R : kb_M} (h : ki_Z N B C R) (hN : N ≤ 600) {a f n j : Nat} (ha : a < 2) (hf : f < 6) (hn : kr_sz R (6 * a + f) = n) (hn24 : n < 24) (h4 : n % 4 ≠ 0) (hl : kr_fi R a (nI (6 * f + n / 4)) (kr_fr R a) = some j) (w : Int32) : ∃ Q2, kb_E (kb_en kz_App_openPartOf [.inr (some (19 + 7 * a)), .inl (nI f), .inl (nI n)] (kb_up C (20 + 7 * a) f (nI (n + 1)))) Q2 ∧ ∀ v2 M2, Q2 (v2, M2) → ∃ s, s < 3 ∧ v2 = some (.inr (some (23 + 7 * a + s))) ∧ kb_E (kb_en kz_App_changeWord [.inr (some (19 + 7 * a)), .inr (some (23 + 7 * a + s)), .inl (nI n), .inl w] M2) (fun q => q.1 = some (.inl 1) ∧ ki_Z (N + 1) (B + 5) q.2 (kr_ch (kb_up R 35 (6 * a + f) (nI (n + 1))) a f n w)) := by
  have hR := h.1.1
  have hA := h.1.2.2.2.2.2 a ha
  obtain ⟨L, hL⟩ := hA.2.2.2.1
  have hlen := hL.1
  have hq : 6 * f + n / 4 < 36 := by omega
  obtain ⟨hj, hp⟩ := kr_fi_lt hl
  obtain ⟨s, hs⟩ : ∃ s, L[j]? = some s := ⟨L[j]'(by omega), List.getElem?_eq_getElem (by omega)⟩
  obtain ⟨hs3, hj3, r, -, -, -, g1, g2, -, -, -, -, -, -, -⟩ := ka_slot hA hR ha hL hs
  have hpt : C (23 + 7 * a + s) 1 = nI (6 * f + n / 4) := (hL.2.2.2.2.1 j s hs).1.trans hp
  have dn : ∀ k, k ≠ 20 + 7 * a → (kb_up C (20 + 7 * a) f (nI (n + 1))) k = C k := fun k hk => kb_up_ne _ _ _ hk
  have hL1 : ki_B (kb_up C (20 + 7 * a) f (nI (n + 1))) R a L := ki_B_fr hL (dn 4 (by omega)) (dn _ (by omega)) (fun s hs => dn _ (by omega))
  have hz : kq_S (19 + 7 * a) (23 + 7 * a + s) := by unfold kq_S; omega
  have O : kb_E (kb_en kz_App_openPartOf [.inr (some (19 + 7 * a)), .inl (nI f), .inl (nI n)] (kb_up C (20 + 7 * a) f (nI (n + 1)))) (fun q => q = (some (.inr (some (23 + 7 * a + s))), ka_fin (kb_up C (20 + 7 * a) f (nI (n + 1))) (19 + 7 * a) (23 + 7 * a + s))) := by
    refine cq_open0 (kq_in ha) _ hf hn24 (by rw [show 19 + 7 * a + 1 = 20 + 7 * a by omega, kb_up_at, pk_us]; exact nI_lt (by omega) (by omega)) (ka_sf_hit hL1 hs hq hp) ?_
    exact cq_tail1 (kq_in ha) hz _ _ _ (by rw [dn _ (by omega), g2]; exact nI_m1 (by omega)) (by rw [dn _ (by omega)]; exact hpt)
  refine ⟨_, O, fun v2 M2 e => ?_⟩
  cases e
  have fz : ∀ M : kb_M, ∀ k, k ≠ 2 → (ka_fin M (19 + 7 * a) (23 + 7 * a + s)) (23 + 7 * a + s) k = M (23 + 7 * a + s) k := fun M k hk => by unfold ka_fin; rw [kb_up_at, pk_un hk, kb_up_ne _ _ _ (by omega)]
  refine ⟨s, hs3, rfl, kb_E_to (cq_change ha hs3 _ w g1 (by rw [fz _ 0 (by decide), dn _ (by omega)]; exact g2) hn24) ⟨rfl, ?_⟩⟩
  -- the virtual way
  have P := ko_hit h hN ha hL hs hp
  have eop : kr_op R a (6 * f + n / 4) = kr_ad (kr_rm R a j) a (nI (6 * f + n / 4)) (R 37 (3 * a + j)) := by unfold kr_op; rw [hl]
  rw [← eop] at P
  obtain ⟨s', L', s1, s2, s3, s4, s5, s6⟩ := P
  have es : s' = s := by
    have : 23 + 7 * a + s = 23 + 7 * a + s' := Option.some.inj (Sum.inr.inj (Option.some.inj s2))
    omega
  subst es
  dsimp only at s3 s4
  have sz : kr_sz (kr_op R a (6 * f + n / 4)) (6 * a + f) = n := by unfold kr_sz; rw [kr_op_ne _ _ _ (Or.inr rfl)]; exact hn
  have Z := kz_dirty s3 ha s4 w s5 g1 (by rw [fz _ 0 (by decide)]; exact g2) hf sz hn24 h4 (by rw [fz _ 1 (by decide)]; exact hpt)
  have em : ka_fin (kb_up C (20 + 7 * a) f (nI (n + 1))) (19 + 7 * a) (23 + 7 * a + s') = kb_up (ka_fin C (19 + 7 * a) (23 + 7 * a + s')) (20 + 7 * a) f (nI (n + 1)) := by
    unfold ka_fin
    rw [dn (19 + 7 * a) (by omega), kb_up_comm C (k := 20 + 7 * a) (l := 19 + 7 * a) _ _ _ _ (by omega), kb_up_comm _ (k := 20 + 7 * a) (l := 23 + 7 * a + s') _ _ _ _ (by omega)]
  have hpos : 0 < kr_fr (kr_op R a (6 * f + n / 4)) a := (kr_op_ok hR ha _).2
  have er : kr_ch (kb_up R 35 (6 * a + f) (nI (n + 1))) a f n w = kb_up (kb_up (kb_up (kr_op R a (6 * f + n / 4)) 35 (6 * a + f) (nI (n + 1))) 34 (144 * a + 24 * f + n) w) 37 (3 * a + (kr_fr (kr_op R a (6 * f + n / 4)) a - 1)) 1 := by
    unfold kr_ch
    rw [show kb_up R 35 (6 * a + f) (nI (n + 1)) = kb_ro R 35 (upd (R 35) (6 * a + f) (nI (n + 1))) from rfl, kd_op _ hl, ← kr_op_ne R a (6 * f + n / 4) (Or.inr rfl)]
    show kb_up (kb_up (kb_up (kr_op R a (6 * f + n / 4)) 35 (6 * a + f) (nI (n + 1))) 34 (144 * a + 24 * f + n) w) 37 (3 * a + kr_fr (kr_op R a (6 * f + n / 4)) a - 1) 1 = _
    congr 1
    omega
  rw [em, er]
  exact Z
