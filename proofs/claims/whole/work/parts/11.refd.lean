/-! the reference's public methods, first those of the guests -/
theorem kr_tk {v : Int32} {n : Nat} (hn : n < 2 ^ 30) : (0 ≤ v ∧ v ≤ nI n - 1) ↔ ∃ t : Nat, t < n ∧ v = nI t := by
  constructor
  · intro h
    cases n with
    | zero =>
      exfalso
      have h1 : (0 : Int32) ≤ nI 0 - 1 := Int32.le_trans h.1 h.2
      exact absurd h1 (by decide)
    | succ n =>
      rw [nI_pred] at h
      obtain ⟨k, hk, e⟩ := kr_in v (by omega) h
      exact ⟨k, by omega, e⟩
  · rintro ⟨t, ht, rfl⟩
    cases n with
    | zero => omega
    | succ n => rw [nI_pred]; exact kr_out (by omega) (by omega)
theorem kr_gst {v : Int32} (h : 2 ≤ v ∧ v ≤ 3) : ∃ g : Nat, g < 2 ∧ v = nI (2 + g) := by
  have h1 : ¬ v < 0 := fun q => by
    have h2 : (2 : Int32) < 0 := Int32.lt_of_le_of_lt h.1 q
    exact absurd h2 (by decide)
  obtain ⟨k, hk, rfl⟩ := nI_of h1
  have h3 : nI 2 ≤ nI k := h.1
  have h4 : nI k ≤ nI 3 := h.2
  rw [nI_leI (by omega) (by omega)] at h3 h4
  exact ⟨k - 2, by omega, by congr 1; omega⟩
theorem kr_gin {g : Nat} (hg : g < 2) : (2 : Int32) ≤ nI (2 + g) ∧ nI (2 + g) ≤ 3 := by
  match g, hg with
  | 0, _ => decide
  | 1, _ => decide
set_option maxRecDepth 100000 in
theorem cr_live {R : kb_M} (hR : kr_ok R) {g t : Nat} (hg : g < 2) (ht : t < kr_bd R g) : kb_E (kb_en kz_Model_live [.inr (some 33), .inl (nI (2 + g)), .inl (nI t)] R) (fun q => q = (some (.inl (if 2 ≤ R 42 (60 * g + t) then nI (60 * g + t) else -1)), R)) := by
  obtain ⟨hbd, hle⟩ := hR.1 g hg
  have eg := kr_g2 hg
  have eg2 : (nI g).toNatClampNeg = g := nI_clamp (by omega)
  have h1 := cr_within R (nI (2 + g)) 2 3
  rw [if_pos (kr_gin hg)] at h1
  have h2 := cr_within R (nI t) 0 (nI (kr_bd R g) - 1)
  rw [if_pos ((kr_tk (by omega)).mpr ⟨t, ht, rfl⟩), ← hbd] at h2
  rw [show R 39 g = R 39 (nI (2 + g) - Int32.ofInt 2).toNatClampNeg from by rw [eg, eg2]] at h2
  have hx := kr_60 hg t
  have hcl : (nI (60 * g + t)).toNatClampNeg = 60 * g + t := nI_clamp (by omega)
  refine kb_go 60 [] ?_
  refine kb_E_to h1 ?_
  refine And.intro (fun h => absurd h (by decide)) (fun _ => ?_)
  refine And.intro (by rw [eg]; exact kb_in_nI hg (by omega)) ?_
  refine kb_E_to h2 ?_
  refine And.intro (fun _ => ?_) (fun h => absurd h (by decide))
  refine And.intro (by rw [eg, hx]; exact kb_in_nI (by omega) (by omega)) ?_
  refine And.intro (fun h => ?_) (fun h => ?_)
  · have h := of_decide_eq_true h
    rw [eg, hx, hcl] at h
    have h : R 42 (60 * g + t) < 2 := h
    rw [if_neg (Int32.not_le.mpr h)]
    exact And.intro rfl rfl
  · have h := of_decide_eq_false h
    rw [eg, hx, hcl] at h
    have h : ¬ R 42 (60 * g + t) < 2 := h
    rw [if_pos (Int32.not_lt.mp h)]
    refine And.intro rfl ?_
    rw [eg, hx]
set_option maxRecDepth 100000 in
theorem cr_live_t {R : kb_M} (hR : kr_ok R) {g : Nat} (hg : g < 2) {v : Int32} (hv : ¬ ∃ t, t < kr_bd R g ∧ v = nI t) : kb_E (kb_en kz_Model_live [.inr (some 33), .inl (nI (2 + g)), .inl v] R) (fun q => q = (some (.inl (-1)), R)) := by
  obtain ⟨hbd, hle⟩ := hR.1 g hg
  have eg := kr_g2 hg
  have eg2 : (nI g).toNatClampNeg = g := nI_clamp (by omega)
  have h1 := cr_within R (nI (2 + g)) 2 3
  rw [if_pos (kr_gin hg)] at h1
  have h2 := cr_within R v 0 (nI (kr_bd R g) - 1)
  rw [if_neg (fun q => hv ((kr_tk (by omega)).mp q)), ← hbd] at h2
  rw [show R 39 g = R 39 (nI (2 + g) - Int32.ofInt 2).toNatClampNeg from by rw [eg, eg2]] at h2
  refine kb_go 60 [] ?_
  refine kb_E_to h1 ?_
  refine And.intro (fun h => absurd h (by decide)) (fun _ => ?_)
  refine And.intro (by rw [eg]; exact kb_in_nI hg (by omega)) ?_
  refine kb_E_to h2 ?_
  exact And.intro (fun h => absurd h (by decide)) (fun _ => And.intro rfl rfl)
set_option maxRecDepth 100000 in
theorem cr_live_g {R : kb_M} {u : Int32} (hu : ¬ (2 ≤ u ∧ u ≤ 3)) (v : Int32) : kb_E (kb_en kz_Model_live [.inr (some 33), .inl u, .inl v] R) (fun q => q = (some (.inl (-1)), R)) := by
  have h1 := cr_within R u 2 3
  rw [if_neg hu] at h1
  refine kb_go 60 [] ?_
  refine kb_E_to h1 ?_
  exact And.intro (fun _ => And.intro rfl rfl) (fun h => absurd h (by decide))
/-- the live ticket that a guest and a number name, if there is one -/
def kr_lt (R : kb_M) (u v : Int32) : Option Nat := if (2 ≤ u ∧ u ≤ 3) ∧ (0 ≤ v ∧ v ≤ R 39 (u - 2).toNatClampNeg - 1) ∧ 2 ≤ R 42 (60 * (u - 2).toNatClampNeg + v.toNatClampNeg) then some (60 * (u - 2).toNatClampNeg + v.toNatClampNeg) else none
def kr_lw (o : Option Nat) : Int32 := match o with
  | none => -1
  | some j => nI j
theorem cr_liveX {R : kb_M} (hR : kr_ok R) (u v : Int32) : kb_E (kb_en kz_Model_live [.inr (some 33), .inl u, .inl v] R) (fun q => q = (some (.inl (kr_lw (kr_lt R u v))), R)) := by
  unfold kr_lt
  by_cases hu : 2 ≤ u ∧ u ≤ 3
  · obtain ⟨g, hg, rfl⟩ := kr_gst hu
    have eg : (nI (2 + g) - 2).toNatClampNeg = g := by rw [show nI (2 + g) - 2 = nI g from kr_g2 hg, nI_clamp (by omega)]
    obtain ⟨hbd, hle⟩ := hR.1 g hg
    rw [eg, hbd]
    by_cases hv : 0 ≤ v ∧ v ≤ nI (kr_bd R g) - 1
    · obtain ⟨t, ht, rfl⟩ := (kr_tk (by omega)).mp hv
      rw [show (nI t).toNatClampNeg = t from nI_clamp (by omega)]
      have h := cr_live hR hg ht
      by_cases h2 : 2 ≤ R 42 (60 * g + t)
      · rw [if_pos h2] at h
        rw [if_pos ⟨hu, hv, h2⟩]
        exact h
      · rw [if_neg h2] at h
        rw [if_neg (fun q => h2 q.2.2)]
        exact h
    · rw [if_neg (fun q => hv q.2.1)]
      exact cr_live_t hR hg (fun q => hv ((kr_tk (by omega)).mpr q))
  · rw [if_neg (fun q => hu q.1)]
    exact cr_live_g hu v
theorem kr_lt_lt {R : kb_M} (hR : kr_ok R) {u v : Int32} {j : Nat} (h : kr_lt R u v = some j) : ∃ g t, g < 2 ∧ t < kr_bd R g ∧ u = nI (2 + g) ∧ v = nI t ∧ j = 60 * g + t ∧ j < 120 ∧ 2 ≤ R 42 j := by
  unfold kr_lt at h
  split at h
  next hc =>
    obtain ⟨hu, hv, h2⟩ := hc
    obtain ⟨g, hg, rfl⟩ := kr_gst hu
    have eg : (nI (2 + g) - 2).toNatClampNeg = g := by rw [show nI (2 + g) - 2 = nI g from kr_g2 hg, nI_clamp (by omega)]
    obtain ⟨hbd, hle⟩ := hR.1 g hg
    rw [eg, hbd] at hv
    obtain ⟨t, ht, rfl⟩ := (kr_tk (by omega)).mp hv
    rw [eg, show (nI t).toNatClampNeg = t from nI_clamp (by omega)] at h h2
    cases h
    exact ⟨g, t, hg, ht, rfl, rfl, rfl, by omega, h2⟩
  next => cases h
theorem kr_lt_at {R : kb_M} (hR : kr_ok R) {g t : Nat} (hg : g < 2) (ht : t < kr_bd R g) : kr_lt R (nI (2 + g)) (nI t) = if 2 ≤ R 42 (60 * g + t) then some (60 * g + t) else none := by
  have eg : (nI (2 + g) - 2).toNatClampNeg = g := by rw [show nI (2 + g) - 2 = nI g from kr_g2 hg, nI_clamp (by omega)]
  obtain ⟨hbd, hle⟩ := hR.1 g hg
  unfold kr_lt
  rw [eg, hbd, show (nI t).toNatClampNeg = t from nI_clamp (by omega)]
  by_cases h2 : 2 ≤ R 42 (60 * g + t)
  · rw [if_pos h2, if_pos ⟨kr_gin hg, (kr_tk (by omega)).mpr ⟨t, ht, rfl⟩, h2⟩]
  · rw [if_neg h2, if_neg (fun q => h2 q.2.2)]
/-- put -/
def kr_put (R : kb_M) (u v i w : Int32) : kb_R := match kr_lt R u v with
  | none => (some (.inl 0), R)
  | some j => if R 41 j = 0 ∧ 0 ≤ i ∧ i ≤ 3 then (some (.inl 1), kb_up R 44 (4 * j + i.toNatClampNeg) w) else (some (.inl 0), R)
theorem kr_4 (j k : Nat) : Int32.ofInt 4 * nI j + nI k = nI (4 * j + k) := by rw [show Int32.ofInt 4 = nI 4 from rfl, pk_mul, nI_add]
set_option maxRecDepth 100000 in
theorem cr_put {R : kb_M} (hR : kr_ok R) (u v i w : Int32) : kb_E (kb_en kz_Model_put [.inr (some 33), .inl u, .inl v, .inl i, .inl w] R) (fun q => q = kr_put R u v i w) := by
  refine kb_go 60 [] ?_
  refine kb_E_to (cr_liveX hR u v) ?_
  unfold kr_put
  cases hl : kr_lt R u v with
  | none => exact And.intro (fun _ => And.intro rfl rfl) (fun h => absurd (show decide ((-1 : Int32) < 0) = false from h) (by decide))
  | some j =>
    obtain ⟨g, t, hg, ht, -, -, -, hj, -⟩ := kr_lt_lt hR hl
    have hcl : (nI j).toNatClampNeg = j := nI_clamp (by omega)
    rw [show kr_lw (some j) = nI j from rfl]
    refine And.intro (fun h => absurd (of_decide_eq_true h) (nI_pos (by omega))) (fun _ => ?_)
    refine And.intro (kb_in_nI hj (by omega)) ?_
    show _ ∧ _
    refine And.intro (fun h => ?_) (fun h => ?_)
    · have h : ¬ R 41 (nI j).toNatClampNeg = 0 := of_decide_eq_true h
      rw [hcl] at h
      refine And.intro rfl ?_
      show _ = if _ then _ else _
      rw [if_neg (fun q => h q.1)]
      rfl
    · have h : R 41 (nI j).toNatClampNeg = 0 := Classical.not_not.mp (of_decide_eq_false h)
      rw [hcl] at h
      refine kb_E_to (cr_within R i 0 3) ?_
      by_cases hi : 0 ≤ i ∧ i ≤ 3
      · rw [if_pos hi]
        obtain ⟨k, hk, rfl⟩ := kr_in i (n := 3) (by decide) hi
        refine And.intro (fun _ => ?_) (fun h => absurd h (by decide))
        refine And.intro (by rw [kr_4]; exact kb_in_nI (by omega) (by omega)) (And.intro rfl ?_)
        show _ = if _ then _ else _
        rw [if_pos ⟨h, hi⟩, kr_4, nI_clamp (by omega), nI_clamp (by omega)]
        rfl
      · rw [if_neg hi]
        refine And.intro (fun h => absurd h (by decide)) (fun _ => And.intro rfl ?_)
        show _ = if _ then _ else _
        rw [if_neg (fun q => hi q.2)]
        rfl
/-- get -/
def kr_get (R : kb_M) (u v i : Int32) : Int32 := match kr_lt R u v with
  | none => 0
  | some j => if R 41 j = 0 ∧ 0 ≤ i ∧ i ≤ 3 then R 44 (4 * j + i.toNatClampNeg) else 0
set_option maxRecDepth 100000 in
theorem cr_get {R : kb_M} (hR : kr_ok R) (u v i : Int32) : kb_E (kb_en kz_Model_get [.inr (some 33), .inl u, .inl v, .inl i] R) (fun q => q = (some (.inl (kr_get R u v i)), R)) := by
  refine kb_go 60 [] ?_
  refine kb_E_to (cr_liveX hR u v) ?_
  unfold kr_get
  cases hl : kr_lt R u v with
  | none => exact And.intro (fun _ => And.intro rfl rfl) (fun h => absurd (show decide ((-1 : Int32) < 0) = false from h) (by decide))
  | some j =>
    obtain ⟨g, t, hg, ht, -, -, -, hj, -⟩ := kr_lt_lt hR hl
    have hcl : (nI j).toNatClampNeg = j := nI_clamp (by omega)
    rw [show kr_lw (some j) = nI j from rfl]
    refine And.intro (fun h => absurd (of_decide_eq_true h) (nI_pos (by omega))) (fun _ => ?_)
    refine And.intro (kb_in_nI hj (by omega)) ?_
    refine And.intro (fun h => ?_) (fun h => ?_)
    · have h : ¬ R 41 (nI j).toNatClampNeg = 0 := of_decide_eq_true h
      rw [hcl] at h
      refine And.intro rfl ?_
      show _ = (some (Sum.inl (if _ then _ else _)), _)
      rw [if_neg (fun q => h q.1)]
      rfl
    · have h : R 41 (nI j).toNatClampNeg = 0 := Classical.not_not.mp (of_decide_eq_false h)
      rw [hcl] at h
      refine kb_E_to (cr_within R i 0 3) ?_
      by_cases hi : 0 ≤ i ∧ i ≤ 3
      · rw [if_pos hi]
        obtain ⟨k, hk, rfl⟩ := kr_in i (n := 3) (by decide) hi
        refine And.intro (fun _ => ?_) (fun h => absurd h (by decide))
        refine And.intro (by rw [kr_4]; exact kb_in_nI (by omega) (by omega)) (And.intro rfl ?_)
        show _ = (some (Sum.inl (if _ then _ else _)), _)
        rw [if_pos ⟨h, hi⟩, kr_4, nI_clamp (by omega), nI_clamp (by omega)]
      · rw [if_neg hi]
        refine And.intro (fun h => absurd h (by decide)) (fun _ => And.intro rfl ?_)
        show _ = (some (Sum.inl (if _ then _ else _)), _)
        rw [if_neg (fun q => hi q.2)]
        rfl
/-- release -/
def kr_rel (R : kb_M) (u v : Int32) : kb_R := match kr_lt R u v with
  | none => (some (.inl 0), R)
  | some j => (some (.inl 1), kb_up R 42 j 0)
set_option maxRecDepth 100000 in
theorem cr_release {R : kb_M} (hR : kr_ok R) (u v : Int32) : kb_E (kb_en kz_Model_release [.inr (some 33), .inl u, .inl v] R) (fun q => q = kr_rel R u v) := by
  refine kb_go 60 [] ?_
  refine kb_E_to (cr_liveX hR u v) ?_
  unfold kr_rel
  cases hl : kr_lt R u v with
  | none => exact And.intro (fun h => absurd (show decide ((0 : Int32) ≤ -1) = true from h) (by decide)) (fun _ => And.intro rfl rfl)
  | some j =>
    obtain ⟨g, t, hg, ht, -, -, -, hj, -⟩ := kr_lt_lt hR hl
    have hcl : (nI j).toNatClampNeg = j := nI_clamp (by omega)
    refine And.intro (fun _ => ?_) (fun h => absurd (nI_pos' (n := j) (by omega)) (of_decide_eq_false h))
    refine And.intro (kb_in_nI hj (by omega)) (And.intro rfl ?_)
    show (_, kb_up R 42 (nI j).toNatClampNeg _) = _
    rw [hcl]
    rfl
/-- ask -/
def kr_ask (R : kb_M) (u v : Int32) : kb_R := match kr_lt R u v with
  | none => (some (.inl 0), R)
  | some j => if R 42 j = 3 then (some (.inl 0), R) else (some (.inl 1), kr_mk R j)
set_option maxRecDepth 100000 in
theorem cr_ask {R : kb_M} (hR : kr_ok R) (u v : Int32) : kb_E (kb_en kz_Model_ask [.inr (some 33), .inl u, .inl v] R) (fun q => q = kr_ask R u v) := by
  refine kb_go 60 [] ?_
  refine kb_E_to (cr_liveX hR u v) ?_
  unfold kr_ask
  cases hl : kr_lt R u v with
  | none => exact And.intro (fun _ => And.intro rfl rfl) (fun h => absurd (show decide ((-1 : Int32) < 0) = false from h) (by decide))
  | some j =>
    obtain ⟨g, t, hg, ht, -, -, -, hj, -⟩ := kr_lt_lt hR hl
    have hcl : (nI j).toNatClampNeg = j := nI_clamp (by omega)
    rw [show kr_lw (some j) = nI j from rfl]
    refine And.intro (fun h => absurd (of_decide_eq_true h) (nI_pos (by omega))) (fun _ => ?_)
    refine And.intro (kb_in_nI hj (by omega)) ?_
    refine And.intro (fun h => ?_) (fun h => ?_)
    · have h : ¬ R 42 (nI j).toNatClampNeg = 3 := of_decide_eq_true h
      rw [hcl] at h
      refine kb_E_to (cr_mark R hj) (And.intro rfl ?_)
      show _ = if _ then _ else _
      rw [if_neg h]
      rfl
    · have h : R 42 (nI j).toNatClampNeg = 3 := Classical.not_not.mp (of_decide_eq_false h)
      rw [hcl] at h
      refine And.intro rfl ?_
      show _ = if _ then _ else _
      rw [if_pos h]
      rfl
