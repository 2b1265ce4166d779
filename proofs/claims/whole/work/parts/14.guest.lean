/-! the guest: its methods in plain words. A guest is cell c: c + 1 kinds, c + 2 resources, c + 3 states, c + 4 deadlines; field 7: how many tickets -/
def kg_P (c : Nat) : Prop := c = 9 ∨ c = 14
set_option maxRecDepth 100000 in
theorem cg_hasAll {c n : Nat} (hc : kg_P c) {C : kb_M} (hn : C c 7 = nI n) (hle : n ≤ 60) : kb_E (kb_en kz_Guest_hasAllTickets [.inr (some c)] C) (fun q => q = (some (.inl (if n = 60 then 1 else 0)), C)) := by
  rcases hc with rfl | rfl
  all_goals
    refine kb_go 20 [] ?_
    refine And.intro (fun h => ?_) (fun h => ?_)
    · have h : C _ 7 < nI 60 := of_decide_eq_true h
      rw [hn, nI_ltI (by omega) (by omega)] at h
      rw [if_neg (by omega)]
      exact And.intro rfl rfl
    · have h : ¬ C _ 7 < nI 60 := of_decide_eq_false h
      rw [hn, nI_ltI (by omega) (by omega)] at h
      rw [if_pos (by omega)]
      exact And.intro rfl rfl
set_option maxRecDepth 100000 in
theorem cg_stateOf {c n : Nat} (hc : kg_P c) {C : kb_M} (hn : C c 7 = nI n) (hle : n ≤ 60) (v : Int32) : kb_E (kb_en kz_Guest_stateOf [.inr (some c), .inl v] C) (fun q => q = (some (.inl (if 0 ≤ v ∧ v ≤ nI n - 1 then C (c + 3) v.toNatClampNeg else -1)), C)) := by
  by_cases hv : 0 ≤ v ∧ v ≤ nI n - 1
  · rw [if_pos hv]
    obtain ⟨t, ht, rfl⟩ := (kr_tk (by omega)).mp hv
    have hcl : (nI t).toNatClampNeg = t := nI_clamp (by omega)
    rcases hc with rfl | rfl
    all_goals
      refine kb_go 20 [] ?_
      refine And.intro (fun h => absurd (of_decide_eq_true h) (nI_pos (by omega))) (fun _ => ?_)
      refine And.intro (fun h => ?_) (fun _ => ?_)
      · have h : C _ 7 ≤ nI t := of_decide_eq_true h
        rw [hn, nI_leI (by omega) (by omega)] at h
        omega
      · exact And.intro (kb_in_nI (by omega) (by omega)) (And.intro rfl rfl)
  · rw [if_neg hv]
    rcases hc with rfl | rfl
    all_goals
      refine kb_go 20 [] ?_
      refine And.intro (fun _ => And.intro rfl rfl) (fun h => ?_)
      have h : ¬ v < 0 := of_decide_eq_false h
      refine And.intro (fun _ => And.intro rfl rfl) (fun h2 => ?_)
      have h2 : ¬ C _ 7 ≤ v := of_decide_eq_false h2
      rw [hn] at h2
      obtain ⟨j, hj, rfl⟩ := nI_of h
      rw [nI_leI (by omega) hj] at h2
      exact absurd ((kr_tk (by omega)).mpr ⟨j, by omega, rfl⟩) hv
/-- is it 2 or 3? -/
def kg_lv (s : Int32) : Int32 := if s = 2 ∨ s = 3 then 1 else 0
set_option maxRecDepth 100000 in
theorem cg_isLive {c n : Nat} (hc : kg_P c) {C : kb_M} (hn : C c 7 = nI n) (hle : n ≤ 60) (v : Int32) : kb_E (kb_en kz_Guest_isLive [.inr (some c), .inl v] C) (fun q => q = (some (.inl (kg_lv (if 0 ≤ v ∧ v ≤ nI n - 1 then C (c + 3) v.toNatClampNeg else -1))), C)) := by
  have h0 := cg_stateOf hc hn hle v
  generalize (if 0 ≤ v ∧ v ≤ nI n - 1 then C (c + 3) v.toNatClampNeg else -1) = s at h0 ⊢
  unfold kg_lv
  rcases hc with rfl | rfl
  all_goals
    refine kb_go 20 [] ?_
    refine kb_E_to h0 ?_
    refine And.intro (fun h => ?_) (fun h => ?_)
    · have h : s = 2 := of_decide_eq_true h
      rw [if_pos (Or.inl h)]
      exact And.intro rfl rfl
    · have h : ¬ s = 2 := of_decide_eq_false h
      refine And.intro (fun h2 => ?_) (fun h2 => ?_)
      · have h2 : ¬ s = 3 := of_decide_eq_true h2
        rw [if_neg (fun q => q.elim h h2)]
        exact And.intro rfl rfl
      · have h2 : s = 3 := Classical.not_not.mp (of_decide_eq_false h2)
        rw [if_pos (Or.inr h2)]
        exact And.intro rfl rfl
/-- a live ticket -/
theorem cg_isLive_y {c n t : Nat} (hc : kg_P c) {C : kb_M} (hn : C c 7 = nI n) (hle : n ≤ 60) (ht : t < n) (hs : C (c + 3) t = 2 ∨ C (c + 3) t = 3) : kb_E (kb_en kz_Guest_isLive [.inr (some c), .inl (nI t)] C) (fun q => q = (some (.inl 1), C)) := by
  have h := cg_isLive hc hn hle (nI t)
  rw [if_pos ((kr_tk (by omega)).mpr ⟨t, ht, rfl⟩), nI_clamp (by omega)] at h
  unfold kg_lv at h
  rw [if_pos hs] at h
  exact h
theorem cg_isLive_n {c n : Nat} (hc : kg_P c) {C : kb_M} (hn : C c 7 = nI n) (hle : n ≤ 60) {v : Int32} (hv : ∀ t, t < n → v = nI t → ¬ (C (c + 3) t = 2 ∨ C (c + 3) t = 3)) : kb_E (kb_en kz_Guest_isLive [.inr (some c), .inl v] C) (fun q => q = (some (.inl 0), C)) := by
  have h := cg_isLive hc hn hle v
  by_cases hr : 0 ≤ v ∧ v ≤ nI n - 1
  · rw [if_pos hr] at h
    obtain ⟨t, ht, rfl⟩ := (kr_tk (by omega)).mp hr
    rw [nI_clamp (by omega)] at h
    unfold kg_lv at h
    rw [if_neg (hv t ht rfl)] at h
    exact h
  · rw [if_neg hr] at h
    exact h
set_option maxRecDepth 100000 in
theorem cg_isLiveOf_y {c n t : Nat} (hc : kg_P c) {C : kb_M} (hn : C c 7 = nI n) (hle : n ≤ 60) (ht : t < n) (hs : C (c + 3) t = 2 ∨ C (c + 3) t = 3) (b : Int32) : kb_E (kb_en kz_Guest_isLiveOf [.inr (some c), .inl (nI t), .inl b] C) (fun q => q = (some (.inl (if C (c + 1) t = b then 1 else 0)), C)) := by
  have h0 := cg_isLive_y hc hn hle ht hs
  have hcl : (nI t).toNatClampNeg = t := nI_clamp (by omega)
  rcases hc with rfl | rfl
  all_goals
    refine kb_go 20 [] ?_
    refine kb_E_to h0 ?_
    refine And.intro (fun h => absurd h (by decide)) (fun _ => ?_)
    refine And.intro (kb_in_nI (by omega) (by omega)) ?_
    refine And.intro (fun h => ?_) (fun h => ?_)
    · have h : ¬ C _ (nI t).toNatClampNeg = b := of_decide_eq_true h
      rw [hcl] at h
      rw [if_neg h]
      exact And.intro rfl rfl
    · have h : C _ (nI t).toNatClampNeg = b := Classical.not_not.mp (of_decide_eq_false h)
      rw [hcl] at h
      rw [if_pos h]
      exact And.intro rfl rfl
set_option maxRecDepth 100000 in
theorem cg_isLiveOf_n {c n : Nat} (hc : kg_P c) {C : kb_M} (hn : C c 7 = nI n) (hle : n ≤ 60) {v : Int32} (hv : ∀ t, t < n → v = nI t → ¬ (C (c + 3) t = 2 ∨ C (c + 3) t = 3)) (b : Int32) : kb_E (kb_en kz_Guest_isLiveOf [.inr (some c), .inl v, .inl b] C) (fun q => q = (some (.inl 0), C)) := by
  have h0 := cg_isLive_n hc hn hle hv
  rcases hc with rfl | rfl
  all_goals
    refine kb_go 20 [] ?_
    refine kb_E_to h0 ?_
    exact And.intro (fun _ => And.intro rfl rfl) (fun h => absurd h (by decide))
-- the pool of kind b: cell 3 or 6
set_option maxRecDepth 100000 in
theorem cg_poolOf {c t b : Nat} (hc : kg_P c) (C : kb_M) (ht : t < 60) (hb : b < 2) (hk : C (c + 1) t = nI b) : kb_E (kb_en kz_Guest_poolOf [.inr (some c), .inl (nI t)] C) (fun q => q = (some (.inr (some (3 + 3 * b))), C)) := by
  have hcl : (nI t).toNatClampNeg = t := nI_clamp (by omega)
  rcases hc with rfl | rfl
  all_goals
    refine kb_go 20 [] ?_
    refine And.intro (kb_in_nI (by omega) (by omega)) ?_
    match b, hb with
    | 0, _ =>
      refine And.intro (fun _ => And.intro rfl rfl) (fun h => ?_)
      have h : ¬ C _ (nI t).toNatClampNeg = 0 := of_decide_eq_false h
      rw [hcl] at h
      exact absurd hk h
    | 1, _ =>
      refine And.intro (fun h => ?_) (fun _ => And.intro rfl rfl)
      have h : C _ (nI t).toNatClampNeg = 0 := of_decide_eq_true h
      rw [hcl] at h
      exact absurd (hk.symm.trans h) (by decide)
set_option maxRecDepth 100000 in
theorem cg_giveBack_y {c n t b r : Nat} (hc : kg_P c) {C : kb_M} (hn : C c 7 = nI n) (hle : n ≤ 60) (ht : t < n) (hs : C (c + 3) t = 2 ∨ C (c + 3) t = 3) (hb : b < 2) (hk : C (c + 1) t = nI b) (hr : C (c + 2) t = nI r) (hrn : r < 12 + 12 * b) : kb_E (kb_en kz_Guest_giveBack [.inr (some c), .inl (nI t)] C) (fun q => q = (some (.inl 1), kb_up (kb_up C (c + 3) t 0) (4 + 3 * b) r (-1))) := by
  have h0 := cg_isLive_y hc hn hle ht hs
  have hcl : (nI t).toNatClampNeg = t := nI_clamp (by omega)
  have h1 := cg_poolOf (c := c) (t := t) (b := b) hc (kb_up C (c + 3) t 0) (by omega) hb (by rw [kb_up_ne _ _ _ (by omega)]; exact hk)
  have h2 := cp_endBinding (c := 3 + 3 * b) (n := 12 + 12 * b) (by match b, hb with | 0, _ => exact Or.inl ⟨rfl, rfl⟩ | 1, _ => exact Or.inr ⟨rfl, rfl⟩) (kb_up C (c + 3) t 0) hrn
  have e2 : (kb_up C (c + 3) t 0) (c + 2) = C (c + 2) := kb_up_ne _ _ _ (by omega)
  rw [show 3 + 3 * b + 1 = 4 + 3 * b by omega, ← hr, ← e2] at h2
  rcases hc with rfl | rfl
  all_goals
    match b, hb with
    | 0, _ =>
      refine kb_go 40 [] ?_
      refine kb_E_to h0 ?_
      refine And.intro (fun _ => ?_) (fun h => absurd h (by decide))
      refine And.intro (kb_in_nI (by omega) (by omega)) ?_
      rw [hcl]
      refine kb_E_to h1 ?_
      refine And.intro (kb_in_nI (by omega) (by omega)) ?_
      rw [hcl]
      refine kb_E_to h2 ?_
      exact And.intro rfl rfl
    | 1, _ =>
      refine kb_go 40 [] ?_
      refine kb_E_to h0 ?_
      refine And.intro (fun _ => ?_) (fun h => absurd h (by decide))
      refine And.intro (kb_in_nI (by omega) (by omega)) ?_
      rw [hcl]
      refine kb_E_to h1 ?_
      refine And.intro (kb_in_nI (by omega) (by omega)) ?_
      rw [hcl]
      refine kb_E_to h2 ?_
      exact And.intro rfl rfl
set_option maxRecDepth 100000 in
theorem cg_giveBack_n {c n : Nat} (hc : kg_P c) {C : kb_M} (hn : C c 7 = nI n) (hle : n ≤ 60) {v : Int32} (hv : ∀ t, t < n → v = nI t → ¬ (C (c + 3) t = 2 ∨ C (c + 3) t = 3)) : kb_E (kb_en kz_Guest_giveBack [.inr (some c), .inl v] C) (fun q => q = (some (.inl 0), C)) := by
  have h0 := cg_isLive_n hc hn hle hv
  rcases hc with rfl | rfl
  all_goals
    refine kb_go 20 [] ?_
    refine kb_E_to h0 ?_
    exact And.intro (fun h => absurd h (by decide)) (fun _ => And.intro rfl rfl)
set_option maxRecDepth 100000 in
theorem cg_askFor {c n : Nat} (hc : kg_P c) {C : kb_M} (hn : C c 7 = nI n) (hle : n ≤ 60) (v d : Int32) : kb_E (kb_en kz_Guest_askFor [.inr (some c), .inl v, .inl d] C) (fun q => (∃ t, t < n ∧ v = nI t ∧ C (c + 3) t = 2 ∧ q = (some (.inl 1), kb_up (kb_up C (c + 3) t 3) (c + 4) t d)) ∨ ((∀ t, t < n → v = nI t → ¬ C (c + 3) t = 2) ∧ q = (some (.inl 0), C))) := by
  have h0 := cg_stateOf hc hn hle v
  by_cases hr : 0 ≤ v ∧ v ≤ nI n - 1
  · rw [if_pos hr] at h0
    obtain ⟨t, ht, rfl⟩ := (kr_tk (by omega)).mp hr
    have hcl : (nI t).toNatClampNeg = t := nI_clamp (by omega)
    rw [hcl] at h0
    rcases hc with rfl | rfl
    all_goals
      refine kb_go 40 [] ?_
      refine kb_E_to h0 ?_
      refine And.intro (fun h => ?_) (fun h => ?_)
      · have h := of_decide_eq_true h
        refine And.intro (kb_in_nI (by omega) (by omega)) (And.intro (kb_in_nI (by omega) (by omega)) (And.intro rfl (Or.inl ⟨t, ht, rfl, h, ?_⟩)))
        rw [hcl]
        rfl
      · have h := of_decide_eq_false h
        refine And.intro rfl (Or.inr ⟨fun s hs e => ?_, rfl⟩)
        have e2 : t = s := (nI_eq (by omega) (by omega)).mp e
        rw [← e2]
        exact h
  · rw [if_neg hr] at h0
    rcases hc with rfl | rfl
    all_goals
      refine kb_go 40 [] ?_
      refine kb_E_to h0 ?_
      refine And.intro (fun h => absurd h (by decide)) (fun _ => ?_)
      exact And.intro rfl (Or.inr ⟨fun s hs e => absurd ((kr_tk (by omega)).mpr ⟨s, hs, e⟩) hr, rfl⟩)
theorem kp_b {b : Nat} (hb : b < 2) : kp_P (3 + 3 * b) (12 + 12 * b) := by
  match b, hb with
  | 0, _ => exact Or.inl ⟨rfl, rfl⟩
  | 1, _ => exact Or.inr ⟨rfl, rfl⟩
set_option maxRecDepth 100000 in
theorem cg_addTicket {c n : Nat} (hc : kg_P c) {C : kb_M} (hn : C c 7 = nI n) (hlt : n < 60) {b : Int32} (hb : b = 0 ∨ b = 1) (r : Int32) : kb_E (kb_en kz_Guest_addTicket [.inr (some c), .inl b, .inl r] C) (fun q => q = (some (.inl (nI n)), kb_up (kb_up (kb_up (kb_up C (c + 1) n b) (c + 2) n r) (c + 3) n 2) c 7 (nI (n + 1)))) := by
  have h0 := cg_hasAll hc hn (by omega)
  rw [if_neg (by omega)] at h0
  have hcl : (nI n).toNatClampNeg = n := nI_clamp (by omega)
  have hin : kb_in (nI n) 60 = true := kb_in_nI hlt (by omega)
  rw [nI_succ]
  rcases hc with rfl | rfl
  all_goals
    refine kb_go 40 [] ?_
    refine kb_E_to h0 ?_
    refine And.intro (fun _ => ?_) (fun h => absurd h (by decide))
    refine And.intro (by rw [hn, hin, kr_01 hb]; rfl) ?_
    refine And.intro (by rw [hn]; exact hin) ?_
    refine And.intro (by rw [hn]; exact hin) (And.intro rfl ?_)
    rw [hn, hcl, kb_up_ne _ _ _ (by decide), kb_up_ne _ _ _ (by decide), kb_up_ne _ _ _ (by decide), hn]
    rfl
set_option maxRecDepth 100000 in
theorem cg_putWord_y {c n t r : Nat} (hc : kg_P c) {C : kb_M} (hn : C c 7 = nI n) (hle : n ≤ 60) (ht : t < n) (hs : C (c + 3) t = 2 ∨ C (c + 3) t = 3) (hk : C (c + 1) t = 0) (hr : C (c + 2) t = nI r) (hrn : r < 12) (i w : Int32) : kb_E (kb_en kz_Guest_putWord [.inr (some c), .inl (nI t), .inl i, .inl w] C) (fun q => q = if 0 ≤ i ∧ i < 4 then (some (.inl 1), kb_up C 5 (4 * r + i.toNatClampNeg) w) else (some (.inl 0), C)) := by
  have h0 := cg_isLiveOf_y hc hn hle ht hs 0
  rw [if_pos hk] at h0
  have hcl : (nI t).toNatClampNeg = t := nI_clamp (by omega)
  have h1 := cp_setWord (c := 3) (n := 12) (Or.inl ⟨rfl, rfl⟩) C hrn i w
  rw [← hr, ← hcl] at h1
  by_cases hi : 0 ≤ i ∧ i < 4
  · rw [if_pos hi] at h1 ⊢
    rcases hc with rfl | rfl
    all_goals
      refine kb_go 40 [] ?_
      refine kb_E_to h0 ?_
      refine And.intro (fun h => absurd h (by decide)) (fun _ => ?_)
      refine And.intro (kb_in_nI (by omega) (by omega)) ?_
      refine kb_E_to h1 ?_
      exact And.intro (fun h => absurd h (by decide)) (fun _ => And.intro rfl rfl)
  · rw [if_neg hi] at h1 ⊢
    rcases hc with rfl | rfl
    all_goals
      refine kb_go 40 [] ?_
      refine kb_E_to h0 ?_
      refine And.intro (fun h => absurd h (by decide)) (fun _ => ?_)
      refine And.intro (kb_in_nI (by omega) (by omega)) ?_
      refine kb_E_to h1 ?_
      exact And.intro (fun _ => And.intro rfl rfl) (fun h => absurd h (by decide))
set_option maxRecDepth 100000 in
theorem cg_putWord_n {c : Nat} (hc : kg_P c) {C : kb_M} {v : Int32} (h0 : kb_E (kb_en kz_Guest_isLiveOf [.inr (some c), .inl v, .inl 0] C) (fun q => q = (some (.inl 0), C))) (i w : Int32) : kb_E (kb_en kz_Guest_putWord [.inr (some c), .inl v, .inl i, .inl w] C) (fun q => q = (some (.inl 0), C)) := by
  rcases hc with rfl | rfl
  all_goals
    refine kb_go 40 [] ?_
    refine kb_E_to h0 ?_
    exact And.intro (fun _ => And.intro rfl rfl) (fun h => absurd h (by decide))
set_option maxRecDepth 100000 in
theorem cg_getWord_y {c n t r : Nat} (hc : kg_P c) {C : kb_M} (hn : C c 7 = nI n) (hle : n ≤ 60) (ht : t < n) (hs : C (c + 3) t = 2 ∨ C (c + 3) t = 3) (hk : C (c + 1) t = 0) (hr : C (c + 2) t = nI r) (hrn : r < 12) (i : Int32) : kb_E (kb_en kz_Guest_getWord [.inr (some c), .inl (nI t), .inl i] C) (fun q => q = (some (.inl (if 0 ≤ i ∧ i < 4 then C 5 (4 * r + i.toNatClampNeg) else 0)), C)) := by
  have h0 := cg_isLiveOf_y hc hn hle ht hs 0
  rw [if_pos hk] at h0
  have hcl : (nI t).toNatClampNeg = t := nI_clamp (by omega)
  have h1 := cp_wordAt (c := 3) (n := 12) (Or.inl ⟨rfl, rfl⟩) C hrn i
  rw [← hr, ← hcl] at h1
  rcases hc with rfl | rfl
  all_goals
    refine kb_go 40 [] ?_
    refine kb_E_to h0 ?_
    refine And.intro (fun h => absurd h (by decide)) (fun _ => ?_)
    refine And.intro (kb_in_nI (by omega) (by omega)) ?_
    refine kb_E_to h1 ?_
    exact And.intro rfl rfl
set_option maxRecDepth 100000 in
theorem cg_getWord_n {c : Nat} (hc : kg_P c) {C : kb_M} {v : Int32} (h0 : kb_E (kb_en kz_Guest_isLiveOf [.inr (some c), .inl v, .inl 0] C) (fun q => q = (some (.inl 0), C))) (i : Int32) : kb_E (kb_en kz_Guest_getWord [.inr (some c), .inl v, .inl i] C) (fun q => q = (some (.inl 0), C)) := by
  rcases hc with rfl | rfl
  all_goals
    refine kb_go 40 [] ?_
    refine kb_E_to h0 ?_
    exact And.intro (fun _ => And.intro rfl rfl) (fun h => absurd h (by decide))
-- copy: what isLiveOf says of the two tickets decides
set_option maxRecDepth 100000 in
theorem cg_copy_fb {c f t rf rt : Nat} (hc : kg_P c) {C : kb_M} (hf : f < 60) (ht : t < 60) (h0 : kb_E (kb_en kz_Guest_isLiveOf [.inr (some c), .inl (nI f), .inl 0] C) (fun q => q = (some (.inl 1), C))) (h1 : kb_E (kb_en kz_Guest_isLiveOf [.inr (some c), .inl (nI t), .inl 1] C) (fun q => q = (some (.inl 1), C))) (hrf : C (c + 2) f = nI rf) (hrt : C (c + 2) t = nI rt) (hlf : rf < 12) (hlt : rt < 24) : kb_E (kb_en kz_Guest_copyWords [.inr (some c), .inl (nI f), .inl (nI t)] C) (fun q => q = (some (.inl 1), kp_cp C 5 8 rf rt)) := by
  have hcf : (nI f).toNatClampNeg = f := nI_clamp (by omega)
  have hct : (nI t).toNatClampNeg = t := nI_clamp (by omega)
  have h2 := cp_takeWordsFrom (c := 6) (n := 24) (c1 := 3) (n1 := 12) (Or.inr ⟨rfl, rfl⟩) (Or.inl ⟨rfl, rfl⟩) C hlf hlt
  rw [← hrf, ← hrt] at h2
  rw [show C (c + 2) f = C (c + 2) (nI f).toNatClampNeg from by rw [hcf], show C (c + 2) t = C (c + 2) (nI t).toNatClampNeg from by rw [hct]] at h2
  rcases hc with rfl | rfl
  all_goals
    refine kb_go 60 [] ?_
    refine kb_E_to h0 ?_
    refine And.intro (fun h => absurd h (by decide)) (fun _ => ?_)
    refine kb_E_to h1 ?_
    refine And.intro (fun h => absurd h (by decide)) (fun _ => ?_)
    refine And.intro (kb_in_nI (by omega) (by omega)) ?_
    refine And.intro (kb_in_nI (by omega) (by omega)) ?_
    refine kb_E_to h2 ?_
    exact And.intro rfl rfl
set_option maxRecDepth 100000 in
theorem cg_copy_bf {c f t rf rt : Nat} (hc : kg_P c) {C : kb_M} (hf : f < 60) (ht : t < 60) (hz : kb_E (kb_en kz_Guest_isLiveOf [.inr (some c), .inl (nI f), .inl 0] C) (fun q => q = (some (.inl 0), C))) (h0 : kb_E (kb_en kz_Guest_isLiveOf [.inr (some c), .inl (nI f), .inl 1] C) (fun q => q = (some (.inl 1), C))) (h1 : kb_E (kb_en kz_Guest_isLiveOf [.inr (some c), .inl (nI t), .inl 0] C) (fun q => q = (some (.inl 1), C))) (hrf : C (c + 2) f = nI rf) (hrt : C (c + 2) t = nI rt) (hlf : rf < 24) (hlt : rt < 12) : kb_E (kb_en kz_Guest_copyWords [.inr (some c), .inl (nI f), .inl (nI t)] C) (fun q => q = (some (.inl 1), kp_cp C 8 5 rf rt)) := by
  have hcf : (nI f).toNatClampNeg = f := nI_clamp (by omega)
  have hct : (nI t).toNatClampNeg = t := nI_clamp (by omega)
  have h2 := cp_takeWordsFrom (c := 3) (n := 12) (c1 := 6) (n1 := 24) (Or.inl ⟨rfl, rfl⟩) (Or.inr ⟨rfl, rfl⟩) C hlf hlt
  rw [← hrf, ← hrt] at h2
  rw [show C (c + 2) f = C (c + 2) (nI f).toNatClampNeg from by rw [hcf], show C (c + 2) t = C (c + 2) (nI t).toNatClampNeg from by rw [hct]] at h2
  rcases hc with rfl | rfl
  all_goals
    refine kb_go 60 [] ?_
    refine kb_E_to hz ?_
    refine And.intro (fun _ => ?_) (fun h => absurd h (by decide))
    refine kb_E_to h0 ?_
    refine And.intro (fun h => absurd h (by decide)) (fun _ => ?_)
    refine kb_E_to h1 ?_
    refine And.intro (fun h => absurd h (by decide)) (fun _ => ?_)
    refine And.intro (kb_in_nI (by omega) (by omega)) ?_
    refine And.intro (kb_in_nI (by omega) (by omega)) ?_
    refine kb_E_to h2 ?_
    exact And.intro rfl rfl
set_option maxRecDepth 100000 in
/-- neither way -/
theorem cg_copy_n {c : Nat} (hc : kg_P c) {C : kb_M} {f t : Int32} {a0 a1 b0 b1 : Bool} (hf0 : kb_E (kb_en kz_Guest_isLiveOf [.inr (some c), .inl f, .inl 0] C) (fun q => q = (some (.inl (if a0 then 1 else 0)), C))) (ht1 : kb_E (kb_en kz_Guest_isLiveOf [.inr (some c), .inl t, .inl 1] C) (fun q => q = (some (.inl (if b1 then 1 else 0)), C))) (hf1 : kb_E (kb_en kz_Guest_isLiveOf [.inr (some c), .inl f, .inl 1] C) (fun q => q = (some (.inl (if a1 then 1 else 0)), C))) (ht0 : kb_E (kb_en kz_Guest_isLiveOf [.inr (some c), .inl t, .inl 0] C) (fun q => q = (some (.inl (if b0 then 1 else 0)), C))) (h : ¬ (a0 = true ∧ b1 = true) ∧ ¬ (a1 = true ∧ b0 = true)) : kb_E (kb_en kz_Guest_copyWords [.inr (some c), .inl f, .inl t] C) (fun q => q = (some (.inl 0), C)) := by
  have second : ∀ cc, cc = c → kb_E (kz_Guest_copyWords, 43, [some (.inr (some cc)), some (.inl f), some (.inl t)], [], C) (fun q => q = (some (.inl 0), C)) := by
    intro cc hcc
    subst hcc
    cases a1 with
    | false =>
      rcases hc with rfl | rfl
      all_goals
        refine kb_go 60 [] ?_
        refine kb_E_to hf1 ?_
        exact And.intro (fun _ => And.intro rfl rfl) (fun h => absurd h (by decide))
    | true =>
      cases b0 with
      | true => exact absurd ⟨rfl, rfl⟩ h.2
      | false =>
        rcases hc with rfl | rfl
        all_goals
          refine kb_go 60 [] ?_
          refine kb_E_to hf1 ?_
          refine And.intro (fun h => absurd h (by decide)) (fun _ => ?_)
          refine kb_E_to ht0 ?_
          exact And.intro (fun _ => And.intro rfl rfl) (fun h => absurd h (by decide))
  cases a0 with
  | false =>
    rcases hc with rfl | rfl
    all_goals
      refine kb_go 60 [43] ?_
      refine kb_E_to hf0 ?_
      exact And.intro (fun _ => second _ rfl) (fun h => absurd h (by decide))
  | true =>
    cases b1 with
    | true => exact absurd ⟨rfl, rfl⟩ h.1
    | false =>
      rcases hc with rfl | rfl
      all_goals
        refine kb_go 60 [43] ?_
        refine kb_E_to hf0 ?_
        refine And.intro (fun h => absurd h (by decide)) (fun _ => ?_)
        refine kb_E_to ht1 ?_
        exact And.intro (fun _ => second _ rfl) (fun h => absurd h (by decide))
/-- the last of the first n tickets that is of kind b and not asked for -/
def kg_la (C : kb_M) (c : Nat) (b : Int32) : Nat → Option Nat
  | 0 => none
  | n + 1 => if C (c + 3) n = 2 ∧ C (c + 1) n = b then some n else kg_la C c b n
set_option maxRecDepth 100000 in
theorem cg_askForLast {c n : Nat} (hc : kg_P c) {C : kb_M} (hn : C c 7 = nI n) (hle : n ≤ 60) (b d : Int32) : kb_E (kb_en kz_Guest_askForLastOf [.inr (some c), .inl b, .inl d] C) (fun q => q = (none, match kg_la C c b n with
    | none => C
    | some t => kb_up (kb_up C (c + 3) t 3) (c + 4) t d)) := by
  have loop : ∀ (i : Nat) (v : Int32), i ≤ n → v = nI i - 1 → kb_E (kz_Guest_askForLastOf, 7, [some (.inr (some c)), some (.inl b), some (.inl d), some (.inl v)], [], C) (fun q => q = (none, match kg_la C c b i with
    | none => C
    | some t => kb_up (kb_up C (c + 3) t 3) (c + 4) t d)) := by
    intro i
    induction i with
    | zero =>
      intro v hi hv
      subst hv
      rcases hc with rfl | rfl
      all_goals
        refine kb_go 40 [7] ?_
        exact And.intro (fun _ => And.intro rfl rfl) (fun h => absurd h (by decide))
    | succ i ih =>
      intro v hi hv
      rw [nI_pred] at hv
      subst hv
      have hcl : (nI i).toNatClampNeg = i := nI_clamp (by omega)
      have hin : kb_in (nI i) 60 = true := kb_in_nI (by omega) (by omega)
      have hnx : nI i + Int32.ofInt (-1) = nI i - 1 := by rw [Int32.sub_eq_add_neg]; rfl
      have hs : kg_la C c b (i + 1) = if C (c + 3) i = 2 ∧ C (c + 1) i = b then some i else kg_la C c b i := rfl
      rw [hs]
      rcases hc with rfl | rfl
      all_goals
        refine kb_go 40 [7] ?_
        refine And.intro (fun h => absurd (of_decide_eq_true h) (nI_pos (by omega))) (fun _ => ?_)
        refine And.intro hin ?_
        refine And.intro (fun h => ?_) (fun h => ?_)
        · have h := of_decide_eq_true h
          rw [hcl] at h
          rw [if_neg (fun q => h q.1)]
          exact ih _ (by omega) hnx
        · have h := Classical.not_not.mp (of_decide_eq_false h)
          rw [hcl] at h
          refine And.intro hin ?_
          refine And.intro (fun h2 => ?_) (fun h2 => ?_)
          · have h2 := of_decide_eq_true h2
            rw [hcl] at h2
            rw [if_neg (fun q => h2 q.2)]
            exact ih _ (by omega) hnx
          · have h2 := Classical.not_not.mp (of_decide_eq_false h2)
            rw [hcl] at h2
            rw [if_pos ⟨h, h2⟩]
            refine And.intro hin (And.intro hin (And.intro rfl ?_))
            rw [hcl]
            rfl
  have h0 := loop n _ (Nat.le_refl _) rfl
  rcases hc with rfl | rfl
  all_goals
    refine kb_go 20 [7] ?_
    rw [← hn] at h0
    exact h0
/-- the earliest deadline among the first n tickets, of kind b -/
def kg_e (C : kb_M) (c : Nat) (b : Int32) : Nat → Int32
  | 0 => 2147483647
  | n + 1 => if C (c + 3) n = 3 ∧ C (c + 1) n = b ∧ C (c + 4) n < kg_e C c b n then C (c + 4) n else kg_e C c b n
set_option maxRecDepth 100000 in
theorem cg_earliest {c n : Nat} (hc : kg_P c) {C : kb_M} (hn : C c 7 = nI n) (hle : n ≤ 60) (b : Int32) : kb_E (kb_en kz_Guest_earliestDeadline [.inr (some c), .inl b] C) (fun q => q = (some (.inl (kg_e C c b n)), C)) := by
  have loop : ∀ (k i : Nat) (w v : Int32), i + k = n → w = kg_e C c b i → v = nI i → kb_E (kz_Guest_earliestDeadline, 5, [some (.inr (some c)), some (.inl b), some (.inl w), some (.inl v)], [], C) (fun q => q = (some (.inl (kg_e C c b n)), C)) := by
    intro k
    induction k with
    | zero =>
      intro i w v hi hw hv
      have hi : i = n := by omega
      subst hi; subst hv; subst hw
      rcases hc with rfl | rfl
      all_goals
        refine kb_go 40 [5] ?_
        refine And.intro (fun _ => And.intro rfl rfl) (fun h => ?_)
        have h := of_decide_eq_false h
        rw [hn] at h
        exact absurd (Int32.le_refl _) h
    | succ k ih =>
      intro i w v hi hw hv
      subst hv
      have hcl : (nI i).toNatClampNeg = i := nI_clamp (by omega)
      have hin : kb_in (nI i) 60 = true := kb_in_nI (by omega) (by omega)
      have hs : kg_e C c b (i + 1) = if C (c + 3) i = 3 ∧ C (c + 1) i = b ∧ C (c + 4) i < kg_e C c b i then C (c + 4) i else kg_e C c b i := rfl
      rw [← hw] at hs
      rcases hc with rfl | rfl
      all_goals
        refine kb_go 40 [5] ?_
        refine And.intro (fun h => ?_) (fun _ => ?_)
        · have h := of_decide_eq_true h
          rw [hn, nI_leI (by omega) (by omega)] at h
          omega
        · refine And.intro hin ?_
          refine And.intro (fun h => ?_) (fun h => ?_)
          · have h := of_decide_eq_true h
            rw [hcl] at h
            refine ih (i + 1) _ _ (by omega) ?_ (nI_succ i).symm
            rw [hs, if_neg (fun q => h q.1)]
          · have h := Classical.not_not.mp (of_decide_eq_false h)
            rw [hcl] at h
            refine And.intro hin ?_
            refine And.intro (fun h2 => ?_) (fun h2 => ?_)
            · have h2 := of_decide_eq_true h2
              rw [hcl] at h2
              refine ih (i + 1) _ _ (by omega) ?_ (nI_succ i).symm
              rw [hs, if_neg (fun q => h2 q.2.1)]
            · have h2 := Classical.not_not.mp (of_decide_eq_false h2)
              rw [hcl] at h2
              refine And.intro hin ?_
              refine And.intro (fun h3 => ?_) (fun h3 => ?_)
              · have h3 := of_decide_eq_true h3
                rw [hcl] at h3
                refine ih (i + 1) _ _ (by omega) ?_ (nI_succ i).symm
                rw [hs, if_neg (fun q => absurd q.2.2 (Int32.not_lt.mpr h3))]
              · have h3 := of_decide_eq_false h3
                rw [hcl] at h3
                refine And.intro hin ?_
                refine ih (i + 1) _ _ (by omega) ?_ (nI_succ i).symm
                rw [hs, if_pos ⟨h, h2, Int32.not_le.mp h3⟩, hcl]
  have h0 := loop n 0 2147483647 0 (by omega) rfl rfl
  rcases hc with rfl | rfl
  · exact kb_go 20 [5] h0
  · exact kb_go 20 [5] h0
