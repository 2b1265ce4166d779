/-! sync -/
theorem kr_so_comm (R : kb_M) {i j : Nat} (h : i ≠ j) : kr_so (kr_so R i) j = kr_so (kr_so R j) i := by
  have e33 : ∀ (S : kb_M) (k : Nat), (kr_so S k) 33 = upd (S 33) 1 (if S 37 k = 0 then S 33 1 else S 33 1 + 1) := fun S k => by unfold kr_so; rw [kb_up_ne _ _ _ (by decide), kb_up_at]
  have e37 : ∀ (S : kb_M) (k : Nat), (kr_so S k) 37 = upd (S 37) k 0 := fun S k => by unfold kr_so; rw [kb_up_at, kb_up_ne _ _ _ (by decide)]
  funext k q
  by_cases h33 : k = 33
  · subst h33
    rw [e33, e33, e33, e33, e37, e37, pk_un (fun e => h e.symm), pk_un h, pk_us, pk_us]
    by_cases hq : q = 1
    · rw [hq, pk_us, pk_us]
      by_cases hi : R 37 i = 0
      · rw [if_pos hi, if_pos hi]
      · rw [if_neg hi, if_neg hi]
        by_cases hj : R 37 j = 0
        · rw [if_pos hj, if_pos hj]
        · rw [if_neg hj, if_neg hj]
    · rw [pk_un hq, pk_un hq, pk_un hq, pk_un hq]
  · by_cases h37 : k = 37
    · subst h37
      rw [e37, e37, e37, e37]
      by_cases hqi : q = i
      · subst hqi
        rw [pk_un h, pk_us, pk_us]
      · by_cases hqj : q = j
        · subst hqj
          rw [pk_us, pk_un hqi, pk_us]
        · rw [pk_un hqj, pk_un hqi, pk_un hqi, pk_un hqj]
    · rw [kr_so_ne _ _ h33 h37, kr_so_ne _ _ h33 h37, kr_so_ne _ _ h33 h37, kr_so_ne _ _ h33 h37]
/-- what storing slot s does to the reference -/
def kg_s (R : kb_M) (a : Nat) (L : List Nat) (s : Nat) : kb_M := if L[0]? = some s then kr_so R (3 * a + 0) else if L[1]? = some s then kr_so R (3 * a + 1) else if L[2]? = some s then kr_so R (3 * a + 2) else R
theorem kz_sl {N B : Nat} {C R : kb_M} (h : ki_Z N B C R) {a : Nat} (ha : a < 2) {L : List Nat} (hL : ki_B C R a L) {s : Nat} (hs : s < 3) : kb_E (kb_en kz_App_storeIfChanged [.inr (some (19 + 7 * a)), .inr (some (23 + 7 * a + s))] C) (fun q => q.1 = none ∧ ki_Z N B q.2 (kg_s R a L s) ∧ ki_B q.2 (kg_s R a L s) a L ∧ q.2 (19 + 7 * (1 - a)) = C (19 + 7 * (1 - a))) := by
  have go : ∀ j, L[j]? = some s → kb_E (kb_en kz_App_storeIfChanged [.inr (some (19 + 7 * a)), .inr (some (23 + 7 * a + s))] C) (fun q => q.1 = none ∧ ki_Z N B q.2 (kr_so R (3 * a + j)) ∧ ki_B q.2 (kr_so R (3 * a + j)) a L ∧ q.2 (19 + 7 * (1 - a)) = C (19 + 7 * (1 - a))) := by
    intro j hj
    refine kb_E_imp (kz_store h ha hL hj) (fun q hq => ?_)
    obtain ⟨q1, q2, q3, q4, -⟩ := hq
    exact ⟨q1, q2, q3, q4 _ (by omega) (by omega) (by omega)⟩
  unfold kg_s
  by_cases h0 : L[0]? = some s
  · rw [if_pos h0]; exact go 0 h0
  · rw [if_neg h0]
    by_cases h1 : L[1]? = some s
    · rw [if_pos h1]; exact go 1 h1
    · rw [if_neg h1]
      by_cases h2 : L[2]? = some s
      · rw [if_pos h2]; exact go 2 h2
      · rw [if_neg h2]
        have hm : s ∉ L := by
          intro hm
          obtain ⟨j, hj⟩ := List.getElem?_of_mem hm
          have h3 := (List.getElem?_eq_some_iff.mp hj).1
          have hle := (h.1.1.2.2.1 a ha).2
          have hlen := hL.1
          have : j = 0 ∨ j = 1 ∨ j = 2 := by omega
          rcases this with rfl | rfl | rfl
          · exact h0 hj
          · exact h1 hj
          · exact h2 hj
        refine kb_E_to (cq_store_no (kq_in ha) (by unfold kq_S; omega) C (hL.2.2.2.1 s hs hm).2.2) ⟨rfl, h, hL, rfl⟩
theorem kg_all {R : kb_M} {a : Nat} {L : List Nat} (hnd : L.Nodup) (hlt : ∀ s, s ∈ L → s < 3) (hlen : L.length ≤ 3) : kg_s (kg_s (kg_s R a L 0) a L 1) a L 2 = kr_sy R a L.length := by
  have c01 := fun S => kr_so_comm S (i := 3 * a + 0) (j := 3 * a + 1) (by omega)
  have c02 := fun S => kr_so_comm S (i := 3 * a + 0) (j := 3 * a + 2) (by omega)
  have c12 := fun S => kr_so_comm S (i := 3 * a + 1) (j := 3 * a + 2) (by omega)
  match L, hnd, hlt, hlen with
  | [], _, _, _ => rfl
  | [x], _, hlt, _ =>
    have hx := hlt x (by simp)
    have : x = 0 ∨ x = 1 ∨ x = 2 := by omega
    rcases this with rfl | rfl | rfl <;> rfl
  | [x, y], hnd, hlt, _ =>
    have hx := hlt x (by simp)
    have hy := hlt y (by simp)
    have hxy : x ≠ y := by
      intro e
      rw [e] at hnd
      simp at hnd
    have e1 : x = 0 ∨ x = 1 ∨ x = 2 := by omega
    have e2 : y = 0 ∨ y = 1 ∨ y = 2 := by omega
    rcases e1 with rfl | rfl | rfl <;> rcases e2 with rfl | rfl | rfl
    all_goals first
      | exact absurd rfl hxy
      | rfl
      | exact (c01 R).symm
  | [x, y, z], hnd, hlt, _ =>
    have hx := hlt x (by simp)
    have hy := hlt y (by simp)
    have hz := hlt z (by simp)
    have hxy : x ≠ y := by
      intro e
      rw [e] at hnd
      simp at hnd
    have hxz : x ≠ z := by
      intro e
      rw [e] at hnd
      simp at hnd
    have hyz : y ≠ z := by
      intro e
      rw [e] at hnd
      simp at hnd
    have e1 : x = 0 ∨ x = 1 ∨ x = 2 := by omega
    have e2 : y = 0 ∨ y = 1 ∨ y = 2 := by omega
    have e3 : z = 0 ∨ z = 1 ∨ z = 2 := by omega
    rcases e1 with rfl | rfl | rfl <;> rcases e2 with rfl | rfl | rfl <;> rcases e3 with rfl | rfl | rfl
    all_goals first
      | exact absurd rfl hxy
      | exact absurd rfl hxz
      | exact absurd rfl hyz
      | rfl
      | (show kr_so (kr_so (kr_so R (3 * a + 0)) (3 * a + 2)) (3 * a + 1) = kr_so (kr_so (kr_so R (3 * a + 0)) (3 * a + 1)) (3 * a + 2); rw [c12])
      | (show kr_so (kr_so (kr_so R (3 * a + 1)) (3 * a + 0)) (3 * a + 2) = kr_so (kr_so (kr_so R (3 * a + 0)) (3 * a + 1)) (3 * a + 2); rw [c01])
      | (show kr_so (kr_so (kr_so R (3 * a + 1)) (3 * a + 2)) (3 * a + 0) = kr_so (kr_so (kr_so R (3 * a + 0)) (3 * a + 1)) (3 * a + 2); rw [← c02, ← c01])
      | (show kr_so (kr_so (kr_so R (3 * a + 2)) (3 * a + 0)) (3 * a + 1) = kr_so (kr_so (kr_so R (3 * a + 0)) (3 * a + 1)) (3 * a + 2); rw [← c02, c12])
      | (show kr_so (kr_so (kr_so R (3 * a + 2)) (3 * a + 1)) (3 * a + 0) = kr_so (kr_so (kr_so R (3 * a + 0)) (3 * a + 1)) (3 * a + 2); rw [← c01, ← c02, c12])
