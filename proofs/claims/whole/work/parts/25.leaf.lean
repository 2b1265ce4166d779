/-! the application: its small methods in plain words. Application a is cell c = 19 + 7 a: c + 1 lengths, c + 2 blocks of parts, c + 4 .. c + 6 slots (0 frame, 1 part, 2 last use, 3 changed) -/
def kq_P (c : Nat) : Prop := c = 19 ∨ c = 26
theorem kq_in {a : Nat} (ha : a < 2) : kq_P (19 + 7 * a) := by
  match a, ha with
  | 0, _ => exact Or.inl rfl
  | 1, _ => exact Or.inr rfl
def kq_S (c z : Nat) : Prop := z = c + 4 ∨ z = c + 5 ∨ z = c + 6
theorem kq_s {c s : Nat} (hs : s < 3) : kq_S c (c + 4 + s) := by
  unfold kq_S
  omega
set_option maxRecDepth 100000 in
theorem cq_isEmpty {c z : Nat} (hc : kq_P c) (hz : kq_S c z) (C : kb_M) : kb_E (kb_en kz_Slot_isEmpty [.inr (some z)] C) (fun q => q = (some (.inl (if C z 0 = -1 then 1 else 0)), C)) := by
  rcases hc with rfl | rfl <;> rcases hz with rfl | rfl | rfl
  all_goals
    refine kb_go 20 [] ?_
    refine And.intro (fun h => ?_) (fun h => ?_)
    · have h : ¬ C _ 0 = -1 := of_decide_eq_true h
      rw [if_neg h]
      exact And.intro rfl rfl
    · have h : C _ 0 = -1 := Classical.not_not.mp (of_decide_eq_false h)
      rw [if_pos h]
      exact And.intro rfl rfl
/-- the slot in which part p lies -/
def ka_so (C : kb_M) (c : Nat) (p : Int32) : Option Nat := if C (c + 4) 1 = p then some (c + 4) else if C (c + 5) 1 = p then some (c + 5) else if C (c + 6) 1 = p then some (c + 6) else none
set_option maxRecDepth 100000 in
theorem cq_slotOf {c : Nat} (hc : kq_P c) (C : kb_M) (p : Int32) : kb_E (kb_en kz_App_slotOf [.inr (some c), .inl p] C) (fun q => q = (some (.inr (ka_so C c p)), C)) := by
  unfold ka_so
  rcases hc with rfl | rfl
  all_goals
    refine kb_go 100 [] ?_
    refine And.intro (fun h => absurd h (by decide)) (fun _ => And.intro rfl ?_)
    refine And.intro (fun h => ?_) (fun h => ?_)
    · have h := of_decide_eq_true h
      rw [if_neg h]
      refine And.intro (fun h => absurd h (by decide)) (fun _ => And.intro rfl ?_)
      refine And.intro (fun h => ?_) (fun h => ?_)
      · have h := of_decide_eq_true h
        rw [if_neg h]
        refine And.intro (fun h => absurd h (by decide)) (fun _ => And.intro rfl ?_)
        refine And.intro (fun h => ?_) (fun h => ?_)
        · have h := of_decide_eq_true h
          rw [if_neg h]
          exact And.intro (fun _ => And.intro rfl rfl) (fun h => absurd h (by decide))
        · have h := Classical.not_not.mp (of_decide_eq_false h)
          rw [if_pos h]
          exact And.intro rfl rfl
      · have h := Classical.not_not.mp (of_decide_eq_false h)
        rw [if_pos h]
        exact And.intro rfl rfl
    · have h := Classical.not_not.mp (of_decide_eq_false h)
      rw [if_pos h]
      exact And.intro rfl rfl
/-- the older of two -/
def ka_o1 (C : kb_M) (o : Option Nat) (z : Nat) : Option Nat := if C z 0 = -1 then o else match o with
  | none => some z
  | some y => if C y 2 ≤ C z 2 then some y else some z
def ka_old (C : kb_M) (c : Nat) : Option Nat := ka_o1 C (ka_o1 C (ka_o1 C none (c + 4)) (c + 5)) (c + 6)
set_option maxRecDepth 100000 in
set_option maxHeartbeats 4000000 in
theorem cq_oldStep {c i : Nat} {o : Option Nat} (hc : kq_P c) (hi : i = 0 ∨ i = 1 ∨ i = 2) (ho : o = none ∨ o = some (c + 4) ∨ o = some (c + 5)) {C : kb_M} {Q : kb_R → Prop} (x : Option kb_v) (K : ∀ x, kb_E (kz_App_oldestSlot, 13, [some (.inr (some c)), some (.inr (ka_o1 C o (c + 4 + i))), some (.inr (some (c + 3))), some (.inl 3), some (.inl (nI (i + 1))), x], [], C) Q) : kb_E (kz_App_oldestSlot, 13, [some (.inr (some c)), some (.inr o), some (.inr (some (c + 3))), some (.inl 3), some (.inl (nI i)), x], [], C) Q := by
  have E := cq_isEmpty (z := c + 4 + i) hc (by unfold kq_S; omega) C
  by_cases he : C (c + 4 + i) 0 = -1
  · rw [if_pos he] at E
    have e : ka_o1 C o (c + 4 + i) = o := by unfold ka_o1; rw [if_pos he]
    rw [e] at K
    rcases hc with rfl | rfl <;> rcases hi with rfl | rfl | rfl <;> rcases ho with rfl | rfl | rfl
    all_goals
      refine kb_go 60 [13] ?_
      refine And.intro (fun h => absurd h (by decide)) (fun _ => And.intro rfl ?_)
      refine kb_E_to E ?_
      exact And.intro (fun _ => K _) (fun h => absurd h (by decide))
  · rw [if_neg he] at E
    rcases ho with rfl | ho
    · have e : ka_o1 C none (c + 4 + i) = some (c + 4 + i) := by unfold ka_o1; rw [if_neg he]
      rw [e] at K
      rcases hc with rfl | rfl <;> rcases hi with rfl | rfl | rfl
      all_goals
        refine kb_go 60 [13] ?_
        refine And.intro (fun h => absurd h (by decide)) (fun _ => And.intro rfl ?_)
        refine kb_E_to E ?_
        exact And.intro (fun h => absurd h (by decide)) (fun _ => K _)
    · have e : ∀ y, o = some y → ka_o1 C o (c + 4 + i) = if C y 2 ≤ C (c + 4 + i) 2 then some y else some (c + 4 + i) := by
        intro y hy
        unfold ka_o1
        rw [if_neg he, hy]
      rcases hc with rfl | rfl <;> rcases hi with rfl | rfl | rfl <;> rcases ho with rfl | rfl
      all_goals
        rw [e _ rfl] at K
        refine kb_go 60 [13] ?_
        refine And.intro (fun h => absurd h (by decide)) (fun _ => And.intro rfl ?_)
        refine kb_E_to E ?_
        refine And.intro (fun h => absurd h (by decide)) (fun _ => ?_)
        refine And.intro (fun h => ?_) (fun h => ?_)
        · have h := of_decide_eq_true h
          rw [if_pos h] at K
          exact K _
        · have h := of_decide_eq_false h
          rw [if_neg h] at K
          exact K _
theorem ka_o1_in {C : kb_M} {c : Nat} {o : Option Nat} (ho : o = none ∨ o = some (c + 4)) : ka_o1 C o (c + 5) = none ∨ ka_o1 C o (c + 5) = some (c + 4) ∨ ka_o1 C o (c + 5) = some (c + 5) := by
  unfold ka_o1
  rcases ho with rfl | rfl
  · split
    · exact Or.inl rfl
    · exact Or.inr (Or.inr rfl)
  · split
    · exact Or.inr (Or.inl rfl)
    · show (if _ then _ else _) = _ ∨ (if _ then _ else _) = _ ∨ (if _ then _ else _) = _
      split
      · exact Or.inr (Or.inl rfl)
      · exact Or.inr (Or.inr rfl)
set_option maxRecDepth 100000 in
theorem cq_oldest {c : Nat} (hc : kq_P c) (C : kb_M) : kb_E (kb_en kz_App_oldestSlot [.inr (some c)] C) (fun q => q = (some (.inr (ka_old C c)), C)) := by
  have o1 : ka_o1 C none (c + 4) = none ∨ ka_o1 C none (c + 4) = some (c + 4) := by
    unfold ka_o1
    split
    · exact Or.inl rfl
    · exact Or.inr rfl
  have fin : ∀ x, kb_E (kz_App_oldestSlot, 13, [some (.inr (some c)), some (.inr (ka_old C c)), some (.inr (some (c + 3))), some (.inl 3), some (.inl (nI 3)), x], [], C) (fun q => q = (some (.inr (ka_old C c)), C)) := by
    intro x
    refine kb_go 20 [] ?_
    refine And.intro (fun _ => And.intro rfl rfl) (fun h => absurd h (by decide))
  have s2 := fun x => cq_oldStep (i := 2) (o := ka_o1 C (ka_o1 C none (c + 4)) (c + 5)) hc (Or.inr (Or.inr rfl)) (ka_o1_in o1) x fin
  have s1 := fun x => cq_oldStep (i := 1) (o := ka_o1 C none (c + 4)) hc (Or.inr (Or.inl rfl)) (o1.elim Or.inl (fun q => Or.inr (Or.inl q))) x s2
  have s0 := fun x => cq_oldStep (i := 0) (o := none) hc (Or.inl rfl) (Or.inl rfl) x s1
  rcases hc with rfl | rfl
  · exact kb_go 20 [13] (s0 none)
  · exact kb_go 20 [13] (s0 none)
/-- what the oldest is -/
theorem ka_old_spec (C : kb_M) (c : Nat) : (ka_old C c = none → ∀ s, s < 3 → C (c + 4 + s) 0 = -1) ∧ (∀ z, ka_old C c = some z → ∃ s, s < 3 ∧ z = c + 4 + s ∧ C z 0 ≠ -1 ∧ ∀ y, y < 3 → C (c + 4 + y) 0 ≠ -1 → C z 2 ≤ C (c + 4 + y) 2) := by
  have key : ∀ (o : Option Nat) (n : Nat), n < 3 → (o = none → ∀ s, s < n → C (c + 4 + s) 0 = -1) → (∀ z, o = some z → ∃ s, s < n ∧ z = c + 4 + s ∧ C z 0 ≠ -1 ∧ ∀ y, y < n → C (c + 4 + y) 0 ≠ -1 → C z 2 ≤ C (c + 4 + y) 2) → (ka_o1 C o (c + 4 + n) = none → ∀ s, s < n + 1 → C (c + 4 + s) 0 = -1) ∧ (∀ z, ka_o1 C o (c + 4 + n) = some z → ∃ s, s < n + 1 ∧ z = c + 4 + s ∧ C z 0 ≠ -1 ∧ ∀ y, y < n + 1 → C (c + 4 + y) 0 ≠ -1 → C z 2 ≤ C (c + 4 + y) 2) := by
    intro o n hn h1 h2
    unfold ka_o1
    by_cases he : C (c + 4 + n) 0 = -1
    · rw [if_pos he]
      refine ⟨fun ho s hs => ?_, fun z hz => ?_⟩
      · by_cases hsn : s = n
        · rw [hsn]; exact he
        · exact h1 ho s (by omega)
      · obtain ⟨s, s1, s2, s3, s4⟩ := h2 z hz
        refine ⟨s, by omega, s2, s3, fun y hy hne => ?_⟩
        by_cases hyn : y = n
        · rw [hyn] at hne; exact absurd he hne
        · exact s4 y (by omega) hne
    · rw [if_neg he]
      cases o with
      | none =>
        refine ⟨fun q => (by cases q), fun z hz => ?_⟩
        cases hz
        refine ⟨n, by omega, rfl, he, fun y hy hne => ?_⟩
        by_cases hyn : y = n
        · rw [hyn]; exact Int32.le_refl _
        · exact absurd (h1 rfl y (by omega)) hne
      | some z0 =>
        obtain ⟨s, s1, s2, s3, s4⟩ := h2 z0 rfl
        dsimp only
        by_cases hle : C z0 2 ≤ C (c + 4 + n) 2
        · rw [if_pos hle]
          refine ⟨fun q => (by cases q), fun z hz => ?_⟩
          cases hz
          refine ⟨s, by omega, s2, s3, fun y hy hne => ?_⟩
          by_cases hyn : y = n
          · rw [hyn]; exact hle
          · exact s4 y (by omega) hne
        · rw [if_neg hle]
          refine ⟨fun q => (by cases q), fun z hz => ?_⟩
          cases hz
          refine ⟨n, by omega, rfl, he, fun y hy hne => ?_⟩
          by_cases hyn : y = n
          · rw [hyn]; exact Int32.le_refl _
          · exact Int32.le_trans (Int32.le_of_lt (Int32.not_le.mp hle)) (s4 y (by omega) hne)
  have k0 := key none 0 (by decide) (fun _ s hs => by omega) (fun z hz => by cases hz)
  have k1 := key _ 1 (by decide) k0.1 k0.2
  have k2 := key _ 2 (by decide) k1.1 k1.2
  exact k2
set_option maxRecDepth 100000 in
theorem cq_blockOf {c p : Nat} (hc : kq_P c) (C : kb_M) (hp : p < 36) : kb_E (kb_en kz_App_blockOf [.inr (some c), .inl (nI p)] C) (fun q => q = (some (.inl (C (c + 2) p)), C)) := by
  have hcl : (nI p).toNatClampNeg = p := nI_clamp (by omega)
  rcases hc with rfl | rfl
  all_goals
    refine kb_go 40 [] ?_
    refine And.intro (fun h => absurd (of_decide_eq_true h) (nI_pos (by omega))) (fun _ => ?_)
    refine And.intro (fun h => absurd (of_decide_eq_true h) (nI_ge (b := 36) (by omega) (by omega))) (fun _ => ?_)
    refine And.intro (kb_in_nI (by omega) (by omega)) (And.intro rfl ?_)
    rw [hcl]
/-- a slot is emptied -/
def ka_gf (C : kb_M) (z r : Nat) : kb_M := kb_up (kb_up (kb_up (kb_up C 4 r (-1)) z 0 (-1)) z 1 (-1)) z 3 0
set_option maxRecDepth 100000 in
theorem cq_giveFrameBack {c z r : Nat} (hc : kq_P c) (hz : kq_S c z) (C : kb_M) (hr : r < 12) (hf : C z 0 = nI r) : kb_E (kb_en kz_App_giveFrameBack [.inr (some c), .inr (some z)] C) (fun q => q = (none, ka_gf C z r)) := by
  have E := cp_endBinding (c := 3) (n := 12) (Or.inl ⟨rfl, rfl⟩) C hr
  rw [← hf] at E
  rcases hc with rfl | rfl <;> rcases hz with rfl | rfl | rfl
  all_goals
    refine kb_go 40 [] ?_
    refine kb_E_to E ?_
    exact And.intro rfl (And.intro rfl rfl)
/-- a slot's words go to their block -/
def ka_st (C : kb_M) (c z r w : Nat) : kb_M := kb_up (kb_up (kp_cp C 5 8 r w) z 3 0) c 1 (C c 1 + 1)
set_option maxRecDepth 100000 in
theorem cq_store {c z r p w : Nat} (hc : kq_P c) (hz : kq_S c z) (C : kb_M) (hr : r < 12) (hf : C z 0 = nI r) (hp : p < 36) (hpt : C z 1 = nI p) (hw : w < 24) (hb : C (c + 2) p = nI w) (hch : C z 3 ≠ 0) : kb_E (kb_en kz_App_storeIfChanged [.inr (some c), .inr (some z)] C) (fun q => q = (none, ka_st C c z r w)) := by
  have B := cq_blockOf hc C hp
  rw [← hpt] at B
  have T := cp_takeWordsFrom (c := 6) (n := 24) (c1 := 3) (n1 := 12) (Or.inr ⟨rfl, rfl⟩) (Or.inl ⟨rfl, rfl⟩) C hr hw
  rw [← hf, ← hb] at T
  have e1 : ∀ k, k ≠ 8 → (kp_cp C 5 8 r w) k = C k := fun k hk => by unfold kp_cp; rw [kb_ro_ne _ _ hk]
  unfold ka_st
  rcases hc with rfl | rfl <;> rcases hz with rfl | rfl | rfl
  all_goals
    refine kb_go 60 [] ?_
    refine And.intro (fun _ => ?_) (fun h => absurd (Classical.not_not.mp (of_decide_eq_false h)) hch)
    refine kb_E_to B ?_
    refine kb_E_to T ?_
    refine And.intro rfl (And.intro rfl ?_)
    rw [kb_up_ne _ _ _ (by decide), e1 _ (by decide)]
    rfl
set_option maxRecDepth 100000 in
theorem cq_store_no {c z : Nat} (hc : kq_P c) (hz : kq_S c z) (C : kb_M) (hch : C z 3 = 0) : kb_E (kb_en kz_App_storeIfChanged [.inr (some c), .inr (some z)] C) (fun q => q = (none, C)) := by
  rcases hc with rfl | rfl <;> rcases hz with rfl | rfl | rfl
  all_goals
    refine kb_go 60 [] ?_
    exact And.intro (fun h => absurd hch (of_decide_eq_true h)) (fun _ => And.intro rfl rfl)
/-- a part's words come into a slot -/
def ka_ld (C : kb_M) (c z r w : Nat) (p : Int32) : kb_M := kb_up (kb_up (kb_up (kp_cp C 8 5 w r) z 1 p) z 3 0) c 0 (C c 0 + 1)
set_option maxRecDepth 100000 in
theorem cq_load {c z r p w : Nat} (hc : kq_P c) (hz : kq_S c z) (C : kb_M) (hr : r < 12) (hf : C z 0 = nI r) (hp : p < 36) (hw : w < 24) (hb : C (c + 2) p = nI w) : kb_E (kb_en kz_App_load [.inr (some c), .inr (some z), .inl (nI p)] C) (fun q => q = (none, ka_ld C c z r w (nI p))) := by
  have B := cq_blockOf hc C hp
  have T := cp_takeWordsFrom (c := 3) (n := 12) (c1 := 6) (n1 := 24) (Or.inl ⟨rfl, rfl⟩) (Or.inr ⟨rfl, rfl⟩) C hw hr
  rw [← hf, ← hb] at T
  have e1 : ∀ k, k ≠ 5 → (kp_cp C 8 5 w r) k = C k := fun k hk => by unfold kp_cp; rw [kb_ro_ne _ _ hk]
  unfold ka_ld
  rcases hc with rfl | rfl <;> rcases hz with rfl | rfl | rfl
  all_goals
    refine kb_go 60 [] ?_
    refine kb_E_to B ?_
    refine kb_E_to T ?_
    refine And.intro rfl (And.intro rfl ?_)
    rw [kb_up_ne _ _ _ (by decide), kb_up_ne _ _ _ (by decide), e1 _ (by decide)]
    rfl
set_option maxRecDepth 100000 in
theorem cq_isFile (C : kb_M) (v : Int32) : kb_E (kb_en kz_App_isFile [.inl v] C) (fun q => q = (some (.inl (if 0 ≤ v ∧ v ≤ 5 then 1 else 0)), C)) := by
  have h6 : ∀ v : Int32, (0 ≤ v ∧ v < 6) ↔ (0 ≤ v ∧ v ≤ 5) := by
    intro v
    constructor
    · intro h
      obtain ⟨k, hk, rfl⟩ := nI_of (Int32.not_lt.mpr h.1)
      have h2 : nI k < nI 6 := h.2
      rw [nI_ltI hk (by omega)] at h2
      exact kr_out (n := 5) (by omega) (by omega)
    · intro h
      obtain ⟨k, hk, rfl⟩ := kr_in v (n := 5) (by decide) h
      exact ⟨h.1, nI_lt (b := 6) (by omega) (by omega)⟩
  refine kb_go 20 [] ?_
  refine And.intro (fun h => ?_) (fun h => ?_)
  · have h : v < 0 := of_decide_eq_true h
    rw [if_neg (fun q => absurd q.1 (Int32.not_le.mpr h))]
    exact And.intro rfl rfl
  · have h : ¬ v < 0 := of_decide_eq_false h
    refine And.intro (fun h2 => ?_) (fun h2 => ?_)
    · have h2 : 6 ≤ v := of_decide_eq_true h2
      rw [if_neg (fun q => absurd ((h6 v).mpr q).2 (Int32.not_lt.mpr h2))]
      exact And.intro rfl rfl
    · have h2 : ¬ 6 ≤ v := of_decide_eq_false h2
      rw [if_pos ((h6 v).mp ⟨Int32.not_lt.mp h, Int32.not_le.mp h2⟩)]
      exact And.intro rfl rfl
