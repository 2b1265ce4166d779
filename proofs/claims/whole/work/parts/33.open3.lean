/-! openPartOf: the whole -/
theorem ko_part {f i : Nat} (hf : f < 6) (hi : i < 24) : nI f * (Int8.ofInt 6).toInt32 + nI i / Int32.ofInt 4 = nI (6 * f + i / 4) := by
  rw [Int32.mul_comm, show Int32.ofInt 4 = nI 4 from rfl, pk_div (by omega) (by omega) (by omega), kr_6 hf]
set_option maxRecDepth 100000 in
theorem cq_open0 {c f i z : Nat} (hc : kq_P c) (C : kb_M) {Q : kb_R → Prop} (hf : f < 6) (hi : i < 24) (hlen : nI i < C (c + 1) f) (hz : ka_sf C c (nI (6 * f + i / 4)) = some z) (K : kb_E (kz_App_openPartOf, 46, [some (.inr (some c)), some (.inl (nI f)), some (.inl (nI i)), some (.inl (nI (6 * f + i / 4))), some (.inr (some z))], [], C) Q) : kb_E (kb_en kz_App_openPartOf [.inr (some c), .inl (nI f), .inl (nI i)] C) Q := by
  have F := cq_isFile C (nI f)
  have h5 : 0 ≤ nI f ∧ nI f ≤ 5 := kr_out (n := 5) (by omega) (by omega)
  rw [if_pos h5] at F
  have S := cq_slotFor hc C (nI (6 * f + i / 4))
  rw [hz, ← ko_part hf hi] at S
  rw [← ko_part hf hi] at K
  have hcl : (nI f).toNatClampNeg = f := nI_clamp (by omega)
  rcases hc with rfl | rfl
  all_goals
    refine kb_go 60 [46] ?_
    refine kb_E_to F ?_
    refine And.intro (fun h => absurd h (by decide)) (fun _ => ?_)
    refine And.intro (fun h => absurd (of_decide_eq_true h) (nI_pos (by omega))) (fun _ => ?_)
    refine And.intro (kb_in_nI (by omega) (by omega)) ?_
    refine And.intro (fun _ => ?_) (fun h => absurd (by rw [hcl]; exact hlen) (of_decide_eq_false h))
    refine And.intro rfl ?_
    refine kb_E_to S ?_
    exact K
/-- the counter and the use of a found slot -/
theorem ka_fin_eq {M : kb_M} {c z v : Nat} (hv : M c 7 = nI v) : ka_fin M c z = kb_up (kb_up M c 7 (nI (v + 1))) z 2 (nI (v + 1)) := by
  unfold ka_fin
  rw [hv, nI_succ]
/-- what a call of openPartOf leaves -/
def ko_P (N B : Nat) (S : kb_M) (a q : Nat) (t : kb_R) : Prop := ∃ s L, s < 3 ∧ t.1 = some (.inr (some (23 + 7 * a + s))) ∧ ki_Z N B t.2 S ∧ ki_B t.2 S a L ∧ L[kr_fr S a - 1]? = some s ∧ S 36 (3 * a + kr_fr S a - 1) = nI q

theorem ko_last {S : kb_M} {D : kb_M} {a s : Nat} {L : List Nat} (hB : ki_B D S a (L ++ [s])) : (L ++ [s])[kr_fr S a - 1]? = some s := by
  have h := hB.1
  rw [List.length_append] at h
  rw [List.getElem?_append_right (by simp at h; omega)]
  simp at h
  have : kr_fr S a - 1 - L.length = 0 := by omega
  rw [this]
  rfl
/-- a cached part -/
theorem ko_hit {N B : Nat} {C R : kb_M} (h : ki_Z N B C R) (hN : N ≤ 600) {a : Nat} (ha : a < 2) {L : List Nat} (hL : ki_B C R a L) {j s q : Nat} (hj : L[j]? = some s) (hq : R 36 (3 * a + j) = nI q) : ko_P (N + 1) (B + 5) (kr_ad (kr_rm R a j) a (nI q) (R 37 (3 * a + j))) a q (some (.inr (some (23 + 7 * a + s))), ka_fin C (19 + 7 * a) (23 + 7 * a + s)) := by
  obtain ⟨u, u1, u2⟩ := (h.1.2.2.2.2.2 a ha).2.1
  have hs3 := hL.2.2.1 s (List.mem_of_getElem? hj)
  obtain ⟨J, hB⟩ := ka_touch h.1 hN ha hL hj u1 u2
  have hjl := (List.getElem?_eq_some_iff.mp hj).1
  have hll := hL.1
  have hle := (h.1.1.2.2.1 a ha).2
  obtain ⟨o1, o2⟩ := kr_rm_ok h.1.1 ha (j := j) (by rw [← hL.1]; exact hjl)
  rw [hq, ← ka_fin_eq u1] at J hB
  have rn : ∀ k, k ≠ 19 + 7 * a → k ≠ 23 + 7 * a + s → (ka_fin C (19 + 7 * a) (23 + 7 * a + s)) k = C k := fun k q1 q2 => by unfold ka_fin; rw [kb_up_ne _ _ _ q2, kb_up_ne _ _ _ q1]
  have rc : (ka_fin C (19 + 7 * a) (23 + 7 * a + s)) (19 + 7 * a) = upd (C (19 + 7 * a)) 7 (C (19 + 7 * a) 7 + 1) := by unfold ka_fin; rw [kb_up_ne _ _ _ (by omega), kb_up_at]
  obtain ⟨an, a38, a36, a37⟩ := kr_ad_rows (kr_rm R a j) a (nI q) (R 37 (3 * a + j))
  obtain ⟨sn, -, -, -⟩ := kr_rm_rows R a j
  have e := fun k (hk : k ≠ 7) => ka_same (D := ka_fin C (19 + 7 * a) (23 + 7 * a + s)) (C := C) ha (k := k) (by rw [rc, pk_un hk]) (fun o ho hoa => by rw [rn _ (by omega) (by omega)])
  have s33 : (kr_ad (kr_rm R a j) a (nI q) (R 37 (3 * a + j))) 33 = R 33 := by rw [an 33 (by decide) (by decide) (by decide), sn 33 (by decide) (by decide) (by decide)]
  obtain ⟨x0, x1⟩ := h.2.2.2.2
  have hz1 : ki_Z (N + 1) B C R := ⟨kj_N h.1, h.2⟩
  have ef : kr_fr (kr_ad (kr_rm R a j) a (nI q) (R 37 (3 * a + j))) a = kr_fr (kr_rm R a j) a + 1 := (kr_ad_ok o1 ha (by omega) (p := nI q) (h.1.1.2.2.2.2 (3 * a + j) (by omega))).2
  have hZ : ki_Z (N + 1) B (ka_fin C (19 + 7 * a) (23 + 7 * a + s)) (kr_ad (kr_rm R a j) a (nI q) (R 37 (3 * a + j))) := by
    refine kz_cnt hz1 J (rn 1 (by omega) (by omega)) (rn 3 (by omega) (by omega)) (rn 6 (by omega) (by omega)) (fun k q1 q2 => rn k (by omega) (by omega)) (e 3 (by decide)).1 (e 3 (by decide)).2 ?_ ?_ ?_ ?_ ?_ ?_ ?_
    · rw [(e 0 (by decide)).1, (e 0 (by decide)).2, s33]; exact x0
    · rw [(e 1 (by decide)).1, (e 1 (by decide)).2, s33]; exact x1
    · rw [s33]
    · rw [an 39 (by decide) (by decide) (by decide), sn 39 (by decide) (by decide) (by decide)]
    · rw [an 40 (by decide) (by decide) (by decide), sn 40 (by decide) (by decide) (by decide)]
    · rw [an 42 (by decide) (by decide) (by decide), sn 42 (by decide) (by decide) (by decide)]
    · rw [an 43 (by decide) (by decide) (by decide), sn 43 (by decide) (by decide) (by decide)]
  obtain ⟨h1, ⟨n, n1, n2, n3⟩, h3⟩ := hZ
  refine ⟨s, _, hs3, rfl, ⟨h1, ⟨n, n1, by omega, n3⟩, h3⟩, hB, ko_last hB, ?_⟩
  rw [a36, ef, show 3 * a + (kr_fr (kr_rm R a j) a + 1) - 1 = 3 * a + kr_fr (kr_rm R a j) a by omega]
  exact pk_us
set_option maxRecDepth 100000 in
theorem cq_open1 {a s : Nat} (ha : a < 2) (hs : s < 3) (C : kb_M) {p : Int32} (x1 x2 : Option kb_v) {Q Q1 : kb_R → Prop} (h0 : C (23 + 7 * a + s) 0 = -1) (W : kb_E (kb_en kz_Kernel_bindForApplication [.inr (some 1), .inl (C (19 + 7 * a) 3), .inl (nI 0)] C) Q1) (K : ∀ v M, Q1 (v, M) → ∃ r, v = some (.inl (nI r)) ∧ M (23 + 7 * a + s) 1 ≠ p ∧ M (23 + 7 * a + s) 3 = 0 ∧ kb_E (kz_App_openPartOf, 86, [some (.inr (some (19 + 7 * a))), x1, x2, some (.inl p), some (.inr (some (23 + 7 * a + s)))], [], kb_up M (23 + 7 * a + s) 0 (nI r)) Q) : kb_E (kz_App_openPartOf, 46, [some (.inr (some (19 + 7 * a))), x1, x2, some (.inl p), some (.inr (some (23 + 7 * a + s)))], [], C) Q := by
  have hz : kq_S (19 + 7 * a) (23 + 7 * a + s) := by unfold kq_S; omega
  have E := cq_isEmpty (kq_in ha) hz C
  rw [if_pos h0] at E
  have G := fun (M : kb_M) (r : Nat) (hm : M (23 + 7 * a + s) 3 = 0) => cq_store_no (kq_in ha) hz (kb_up M (23 + 7 * a + s) 0 (nI r)) (by rw [kb_up_at, pk_un (by decide)]; exact hm)
  have e1 : ∀ (M : kb_M) (r : Nat), (kb_up M (23 + 7 * a + s) 0 (nI r)) (23 + 7 * a + s) 1 = M (23 + 7 * a + s) 1 := fun M r => by rw [kb_up_at, pk_un (by decide)]
  have ha01 : a = 0 ∨ a = 1 := by omega
  have hs01 : s = 0 ∨ s = 1 ∨ s = 2 := by omega
  rcases ha01 with rfl | rfl <;> rcases hs01 with rfl | rfl | rfl
  all_goals
    refine kb_go 60 [86] ?_
    refine kb_E_to E ?_
    refine And.intro (fun h => absurd h (by decide)) (fun _ => ?_)
    refine kb_E_then W (fun v M hq => ?_)
    obtain ⟨r, k1, k2, k3, k4⟩ := K v M hq
    subst k1
    refine And.intro (fun h => absurd ((e1 M r).symm.trans (of_decide_eq_true h)) k2) (fun _ => ?_)
    refine kb_E_to (G M r k3) ?_
    exact k4
set_option maxRecDepth 100000 in
theorem cq_open2 {a s : Nat} (ha : a < 2) (hs : s < 3) (C : kb_M) {p : Int32} (x1 x2 : Option kb_v) {Q Q1 : kb_R → Prop} (h0 : C (23 + 7 * a + s) 0 ≠ -1) (h1 : C (23 + 7 * a + s) 1 ≠ p) (W : kb_E (kb_en kz_App_storeIfChanged [.inr (some (19 + 7 * a)), .inr (some (23 + 7 * a + s))] C) Q1) (K : ∀ v M, Q1 (v, M) → v = none ∧ kb_E (kz_App_openPartOf, 86, [some (.inr (some (19 + 7 * a))), x1, x2, some (.inl p), some (.inr (some (23 + 7 * a + s)))], [], M) Q) : kb_E (kz_App_openPartOf, 46, [some (.inr (some (19 + 7 * a))), x1, x2, some (.inl p), some (.inr (some (23 + 7 * a + s)))], [], C) Q := by
  have hz : kq_S (19 + 7 * a) (23 + 7 * a + s) := by unfold kq_S; omega
  have E := cq_isEmpty (kq_in ha) hz C
  rw [if_neg h0] at E
  have ha01 : a = 0 ∨ a = 1 := by omega
  have hs01 : s = 0 ∨ s = 1 ∨ s = 2 := by omega
  rcases ha01 with rfl | rfl <;> rcases hs01 with rfl | rfl | rfl
  all_goals
    refine kb_go 60 [86] ?_
    refine kb_E_to E ?_
    refine And.intro (fun _ => ?_) (fun h => absurd h (by decide))
    refine And.intro (fun h => absurd (of_decide_eq_true h) h1) (fun _ => ?_)
    refine kb_E_then W (fun v M hq => ?_)
    obtain ⟨k1, k2⟩ := K v M hq
    subst k1
    exact k2
