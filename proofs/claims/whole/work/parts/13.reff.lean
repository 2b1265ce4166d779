/-! the reference: bind, and the files' public methods -/
/-- guest g gets one more binding, of kind b -/
def kr_bi (R : kb_M) (g : Nat) (b : Int32) : kb_M := kb_up (kb_ro (kb_up (kb_up R 41 (60 * g + kr_bd R g) b) 42 (60 * g + kr_bd R g) 2) 44 (fun q => if q / 4 = 60 * g + kr_bd R g then 0 else R 44 q)) 39 g (nI (kr_bd R g + 1))
def kr_bind (R : kb_M) (g b : Nat) : kb_R := if kr_bd R g = 60 then (some (.inl (-1)), R) else if kr_f R b = 0 then (if 3 + 3 * b ≤ kr_l R g (nI b) (kr_bd R g) then (some (.inl (-2)), R) else (some (.inl (-3)), kr_wi R (nI b))) else (some (.inl (nI (kr_bd R g))), kr_bi R g (nI b))
set_option maxRecDepth 100000 in
theorem cr_bind_no {R : kb_M} {u : Int32} (hu : ¬ (2 ≤ u ∧ u ≤ 3)) (b : Int32) : kb_E (kb_en kz_Model_bind [.inr (some 33), .inl u, .inl b] R) (fun q => q = (some (.inl (-1)), R)) := by
  have h1 := cr_within R u 2 3
  rw [if_neg hu] at h1
  refine kb_go 60 [] ?_
  refine kb_E_to h1 ?_
  exact And.intro (fun _ => And.intro rfl rfl) (fun h => absurd h (by decide))
set_option maxRecDepth 100000 in
set_option maxHeartbeats 4000000 in
theorem cr_bind {R : kb_M} (hR : kr_ok R) {g b : Nat} (hg : g < 2) (hb : b < 2) : kb_E (kb_en kz_Model_bind [.inr (some 33), .inl (nI (2 + g)), .inl (nI b)] R) (fun q => q = kr_bind R g b) := by
  have h1 := cr_within R (nI (2 + g)) 2 3
  rw [if_pos (kr_gin hg)] at h1
  obtain ⟨hbd, hle⟩ := hR.1 g hg
  have eg := kr_g2 hg
  have eg2 : (nI g).toNatClampNeg = g := nI_clamp (by omega)
  have hgi : kb_in (nI (2 + g) - Int32.ofInt 2) 2 = true := by rw [eg]; exact kb_in_nI hg (by omega)
  refine kb_go 200 [] ?_
  refine kb_E_to h1 ?_
  refine And.intro (fun h => absurd h (by decide)) (fun _ => ?_)
  refine And.intro hgi ?_
  unfold kr_bind
  refine And.intro (fun h => ?_) (fun h => ?_)
  · have h := of_decide_eq_true h
    rw [eg, eg2, hbd] at h
    have h : ¬ nI (kr_bd R g) = nI 60 := h
    rw [nI_eq (by omega) (by omega)] at h
    rw [if_neg h]
    refine kb_E_to (cr_free hR hb) ?_
    refine And.intro (fun h2 => ?_) (fun h2 => ?_)
    · have h2 := of_decide_eq_true h2
      rw [if_neg h2]
      have hx := kr_60 hg (kr_bd R g)
      have ej : (Int8.ofInt 60).toInt32 * (nI (2 + g) - Int32.ofInt 2) + R 39 (nI (2 + g) - Int32.ofInt 2).toNatClampNeg = nI (60 * g + kr_bd R g) := by rw [eg, eg2, hbd, hx]
      have hcl : (nI (60 * g + kr_bd R g)).toNatClampNeg = 60 * g + kr_bd R g := nI_clamp (by omega)
      have hin : kb_in (nI (60 * g + kr_bd R g)) 120 = true := kb_in_nI (by omega) (by omega)
      have hbb : nI b = 0 ∨ nI b = 1 := by
        match b, hb with
        | 0, _ => exact Or.inl rfl
        | 1, _ => exact Or.inr rfl
      have ex : ∀ i : Nat, i < 4 → (Int32.ofInt 4 * nI (60 * g + kr_bd R g) + nI i).toNatClampNeg = (60 * g + kr_bd R g) * 4 + i := fun i hi => by rw [kr_4, nI_clamp (by omega)]; omega
      have ei : ∀ i : Nat, i < 4 → kb_in (Int32.ofInt 4 * ((Int8.ofInt 60).toInt32 * (nI (2 + g) - Int32.ofInt 2) + R 39 (nI (2 + g) - Int32.ofInt 2).toNatClampNeg) + nI i) 480 = true := fun i hi => by rw [ej, kr_4]; exact kb_in_nI (by omega) (by omega)
      refine And.intro hgi ?_
      refine And.intro (by rw [ej, hin, kr_01 hbb]; rfl) ?_
      refine And.intro (by rw [ej]; exact hin) ?_
      refine And.intro (fun h => absurd h (by decide)) (fun _ => And.intro (ei 0 (by decide)) ?_)
      refine And.intro (fun h => absurd h (by decide)) (fun _ => And.intro (ei 1 (by decide)) ?_)
      refine And.intro (fun h => absurd h (by decide)) (fun _ => And.intro (ei 2 (by decide)) ?_)
      refine And.intro (fun h => absurd h (by decide)) (fun _ => And.intro (ei 3 (by decide)) ?_)
      refine And.intro (fun _ => ?_) (fun h => absurd h (by decide))
      refine And.intro hgi (And.intro rfl ?_)
      rw [ej, eg, eg2, hbd, hcl]
      have hz := kp_zero (kb_up (kb_up R 41 (60 * g + kr_bd R g) (nI b)) 42 (60 * g + kr_bd R g) 2) 44 (60 * g + kr_bd R g)
      rw [← ex 0 (by decide), ← ex 1 (by decide), ← ex 2 (by decide), ← ex 3 (by decide)] at hz
      have e44 : (kb_up (kb_up R 41 (60 * g + kr_bd R g) (nI b)) 42 (60 * g + kr_bd R g) 2) 44 = R 44 := by rw [kb_up_ne _ _ _ (by decide), kb_up_ne _ _ _ (by decide)]
      rw [e44] at hz
      unfold kr_bi
      rw [← hz, nI_succ (kr_bd R g)]
      rfl
    · have h2 := Classical.not_not.mp (of_decide_eq_false h2)
      rw [if_pos h2]
      refine kb_E_to (cr_liveOf hR hg (nI b)) ?_
      have hl := kr_l_le R g (nI b) (kr_bd R g)
      match b, hb with
      | 0, _ =>
        refine And.intro (fun _ => ?_) (fun h => absurd h (by decide))
        refine And.intro (fun h3 => ?_) (fun h3 => ?_)
        · have h3 : nI (kr_l R g (nI 0) (kr_bd R g)) < nI 3 := of_decide_eq_true h3
          rw [nI_ltI (by omega) (by omega)] at h3
          rw [if_neg (by omega)]
          exact kb_E_to (cr_wish hR (nI 0)) (And.intro rfl rfl)
        · have h3 : ¬ nI (kr_l R g (nI 0) (kr_bd R g)) < nI 3 := of_decide_eq_false h3
          rw [nI_ltI (by omega) (by omega)] at h3
          rw [if_pos (by omega)]
          exact And.intro rfl rfl
      | 1, _ =>
        refine And.intro (fun h => absurd h (by decide)) (fun _ => ?_)
        refine And.intro (fun h3 => ?_) (fun h3 => ?_)
        · have h3 : nI (kr_l R g (nI 1) (kr_bd R g)) < nI 6 := of_decide_eq_true h3
          rw [nI_ltI (by omega) (by omega)] at h3
          rw [if_neg (by omega)]
          exact kb_E_to (cr_wish hR (nI 1)) (And.intro rfl rfl)
        · have h3 : ¬ nI (kr_l R g (nI 1) (kr_bd R g)) < nI 6 := of_decide_eq_false h3
          rw [nI_ltI (by omega) (by omega)] at h3
          rw [if_pos (by omega)]
          exact And.intro rfl rfl
  · have h := Classical.not_not.mp (of_decide_eq_false h)
    rw [eg, eg2, hbd] at h
    have h : nI (kr_bd R g) = nI 60 := h
    rw [nI_eq (by omega) (by omega)] at h
    rw [if_pos h]
    exact And.intro rfl rfl
/-- which application and file -/
def kr_fl (app name : Int32) : Prop := (0 ≤ app ∧ app ≤ 1) ∧ 0 ≤ name ∧ name ≤ 5
theorem kr_fl_of {app name : Int32} (h : kr_fl app name) : ∃ a f : Nat, a < 2 ∧ f < 6 ∧ app = nI a ∧ name = nI f := by
  obtain ⟨k, hk, e⟩ := kr_in app (n := 1) (by decide) h.1
  obtain ⟨m, hm, e2⟩ := kr_in name (n := 5) (by decide) h.2
  exact ⟨k, m, by omega, by omega, e, e2⟩
theorem kr_fl_in {a f : Nat} (ha : a < 2) (hf : f < 6) : kr_fl (nI a) (nI f) := ⟨kr_out (n := 1) (by omega) (by omega), kr_out (n := 5) (by omega) (by omega)⟩
theorem cr_file {R : kb_M} {a f : Nat} (ha : a < 2) (hf : f < 6) : kb_E (kb_en kz_Model_noFile [.inr (some 33), .inl (nI a), .inl (nI f)] R) (fun q => q = (some (.inl 0), R)) := by
  have h := cr_noFile R (nI a) (nI f)
  have h9 : (0 ≤ nI a ∧ nI a ≤ 1) ∧ 0 ≤ nI f ∧ nI f ≤ 5 := kr_fl_in ha hf
  rw [if_pos h9] at h
  exact h
theorem cr_file_no {R : kb_M} {app name : Int32} (h0 : ¬ kr_fl app name) : kb_E (kb_en kz_Model_noFile [.inr (some 33), .inl app, .inl name] R) (fun q => q = (some (.inl 1), R)) := by
  have h := cr_noFile R app name
  have h9 : ¬ ((0 ≤ app ∧ app ≤ 1) ∧ 0 ≤ name ∧ name ≤ 5) := h0
  rw [if_neg h9] at h
  exact h
set_option maxRecDepth 100000 in
theorem cr_length {R : kb_M} {a f : Nat} (ha : a < 2) (hf : f < 6) : kb_E (kb_en kz_Model_length [.inr (some 33), .inl (nI a), .inl (nI f)] R) (fun q => q = (some (.inl (R 35 (6 * a + f))), R)) := by
  refine kb_go 40 [] ?_
  refine kb_E_to (cr_file ha hf) ?_
  refine And.intro (fun _ => ?_) (fun h => absurd h (by decide))
  refine And.intro (by rw [kr_6 (by omega)]; exact kb_in_nI (by omega) (by omega)) (And.intro rfl ?_)
  rw [kr_6 (by omega), nI_clamp (by omega)]
set_option maxRecDepth 100000 in
theorem cr_length_no {R : kb_M} {app name : Int32} (h0 : ¬ kr_fl app name) : kb_E (kb_en kz_Model_length [.inr (some 33), .inl app, .inl name] R) (fun q => q = (some (.inl (-1)), R)) := by
  refine kb_go 40 [] ?_
  refine kb_E_to (cr_file_no h0) ?_
  exact And.intro (fun h => absurd h (by decide)) (fun _ => And.intro rfl rfl)
theorem cr_word {R : kb_M} (hR : kr_ok R) {a f i : Nat} (ha : a < 2) (hf : f < 6) (hi : i < kr_sz R (6 * a + f)) : kb_E (kb_en kz_Model_noWord [.inr (some 33), .inl (nI a), .inl (nI f), .inl (nI i)] R) (fun q => q = (some (.inl 0), R)) := by
  have h := cr_noWord (R := R) ha hf (nI i)
  obtain ⟨h1, h2⟩ := hR.2.1 (6 * a + f) (by omega)
  rw [if_pos (by rw [h1]; exact (kr_tk (by omega)).mpr ⟨i, hi, rfl⟩)] at h
  exact h
theorem cr_word_no {R : kb_M} (hR : kr_ok R) {a f : Nat} (ha : a < 2) (hf : f < 6) {v : Int32} (hv : ¬ ∃ i, i < kr_sz R (6 * a + f) ∧ v = nI i) : kb_E (kb_en kz_Model_noWord [.inr (some 33), .inl (nI a), .inl (nI f), .inl v] R) (fun q => q = (some (.inl 1), R)) := by
  have h := cr_noWord (R := R) ha hf v
  obtain ⟨h1, h2⟩ := hR.2.1 (6 * a + f) (by omega)
  rw [if_neg (by rw [h1]; exact fun q => hv ((kr_tk (by omega)).mp q))] at h
  exact h
set_option maxRecDepth 100000 in
theorem cr_write {R : kb_M} (hR : kr_ok R) {a f i : Nat} (ha : a < 2) (hf : f < 6) (hi : i < kr_sz R (6 * a + f)) (w : Int32) : kb_E (kb_en kz_Model_write [.inr (some 33), .inl (nI a), .inl (nI f), .inl (nI i), .inl w] R) (fun q => q = (some (.inl 1), kr_ch R a f i w)) := by
  have h2 := (hR.2.1 (6 * a + f) (by omega)).2
  refine kb_go 40 [] ?_
  refine kb_E_to (cr_word hR ha hf hi) ?_
  refine And.intro (fun _ => ?_) (fun h => absurd h (by decide))
  exact kb_E_to (cr_change hR ha hf (by omega) w) (And.intro rfl rfl)
set_option maxRecDepth 100000 in
theorem cr_write_no {R : kb_M} {u v i : Int32} (h0 : kb_E (kb_en kz_Model_noWord [.inr (some 33), .inl u, .inl v, .inl i] R) (fun q => q = (some (.inl 1), R))) (w : Int32) : kb_E (kb_en kz_Model_write [.inr (some 33), .inl u, .inl v, .inl i, .inl w] R) (fun q => q = (some (.inl 0), R)) := by
  refine kb_go 40 [] ?_
  refine kb_E_to h0 ?_
  exact And.intro (fun h => absurd h (by decide)) (fun _ => And.intro rfl rfl)
set_option maxRecDepth 100000 in
theorem cr_read {R : kb_M} (hR : kr_ok R) {a f i : Nat} (ha : a < 2) (hf : f < 6) (hi : i < kr_sz R (6 * a + f)) : kb_E (kb_en kz_Model_read [.inr (some 33), .inl (nI a), .inl (nI f), .inl (nI i)] R) (fun q => q = (some (.inl ((kr_op R a (6 * f + i / 4)) 34 (144 * a + 24 * f + i))), kr_op R a (6 * f + i / 4))) := by
  have h2 := (hR.2.1 (6 * a + f) (by omega)).2
  refine kb_go 40 [] ?_
  refine kb_E_to (cr_word hR ha hf hi) ?_
  refine And.intro (fun _ => ?_) (fun h => absurd h (by decide))
  refine kb_E_to (cr_open hR ha hf (by omega)) ?_
  refine And.intro (by rw [kr_wx]; exact kb_in_nI (by omega) (by omega)) (And.intro rfl ?_)
  rw [kr_wx, nI_clamp (by omega)]
set_option maxRecDepth 100000 in
theorem cr_read_no {R : kb_M} {u v i : Int32} (h0 : kb_E (kb_en kz_Model_noWord [.inr (some 33), .inl u, .inl v, .inl i] R) (fun q => q = (some (.inl 1), R))) : kb_E (kb_en kz_Model_read [.inr (some 33), .inl u, .inl v, .inl i] R) (fun q => q = (some (.inl 0), R)) := by
  refine kb_go 40 [] ?_
  refine kb_E_to h0 ?_
  exact And.intro (fun h => absurd h (by decide)) (fun _ => And.intro rfl rfl)
theorem kr_b_ge {R : kb_M} {a f : Nat} : ∀ n, f < n → (kr_sz R (6 * a + f) + 3) / 4 ≤ kr_b R a n := by
  intro n
  induction n with
  | zero => intro h; omega
  | succ n ih =>
    intro h
    unfold kr_b
    by_cases hf : f = n
    · rw [hf]; omega
    · have := ih (by omega); omega
/-- append -/
def kr_a1 (R : kb_M) (a f : Nat) : kb_M := if kr_sz R (6 * a + f) % 4 = 0 then kr_cm R 1 else R
def kr_a2 (R : kb_M) (a f : Nat) : kb_M := kb_up (kr_a1 R a f) 35 (6 * a + f) (nI (kr_sz R (6 * a + f) + 1))
def kr_app (R : kb_M) (a f : Nat) (w : Int32) : kb_R := if kr_sz R (6 * a + f) % 4 = 0 ∧ 6 ≤ kr_b R a 6 then (some (.inl 0), R) else (some (.inl 1), kr_ch (kr_a2 R a f) a f (kr_sz R (6 * a + f)) w)
theorem kr_a1_ok {R : kb_M} (hR : kr_ok R) (a f : Nat) : kr_ok (kr_a1 R a f) ∧ (kr_a1 R a f) 35 = R 35 := by
  unfold kr_a1
  split
  next => exact ⟨kr_cm_ok hR 1, kr_cm_ne R 1 (by decide) (by decide) (by decide) (by decide)⟩
  next => exact ⟨hR, rfl⟩
theorem kr_a2_ok {R : kb_M} (hR : kr_ok R) {a f : Nat} (h : kr_sz R (6 * a + f) < 24) : kr_ok (kr_a2 R a f) := by
  obtain ⟨⟨h1, h2, h3, h4, h5⟩, h6⟩ := kr_a1_ok hR a f
  have en : ∀ k, k ≠ 35 → (kr_a2 R a f) k = (kr_a1 R a f) k := fun k hk => kb_up_ne _ _ _ hk
  have e35 : (kr_a2 R a f) 35 = upd ((kr_a1 R a f) 35) (6 * a + f) (nI (kr_sz R (6 * a + f) + 1)) := kb_up_at _ _ _ _
  unfold kr_ok kr_bd kr_sz kr_fr
  rw [en 39 (by decide), en 38 (by decide), en 41 (by decide), en 37 (by decide), e35]
  refine ⟨h1, fun j hj => ?_, h3, h4, h5⟩
  unfold upd
  by_cases hk : j = 6 * a + f
  · rw [if_pos hk, nI_clamp (by omega)]
    exact ⟨rfl, by omega⟩
  · rw [if_neg hk]
    exact h2 j hj
set_option maxRecDepth 100000 in
theorem cr_append {R : kb_M} (hR : kr_ok R) {a f : Nat} (ha : a < 2) (hf : f < 6) (w : Int32) : kb_E (kb_en kz_Model_append [.inr (some 33), .inl (nI a), .inl (nI f), .inl w] R) (fun q => q = kr_app R a f w) := by
  obtain ⟨h1, h2⟩ := hR.2.1 (6 * a + f) (by omega)
  have hx := kr_6 (a := a) (by omega) f
  have hcl : (nI (6 * a + f)).toNatClampNeg = 6 * a + f := nI_clamp (by omega)
  have hin : kb_in (nI (6 * a + f)) 12 = true := kb_in_nI (by omega) (by omega)
  have hge := kr_b_ge (R := R) (a := a) (f := f) 6 hf
  have hbl : kr_b R a 6 < 1000 := by
    have : ∀ n, n ≤ 6 → kr_b R a n ≤ 6 * n := by
      intro n
      induction n with
      | zero => intro _; exact Nat.le_refl _
      | succ n ih =>
        intro hn
        have := ih (by omega)
        have hs := (hR.2.1 (6 * a + n) (by omega)).2
        unfold kr_b
        omega
    have := this 6 (by omega)
    omega
  have er : R 35 (nI (6 * a + f)).toNatClampNeg - R 35 (nI (6 * a + f)).toNatClampNeg / Int32.ofInt 4 * Int32.ofInt 4 = nI (kr_sz R (6 * a + f) % 4) := by
    rw [hcl, h1, show Int32.ofInt 4 = nI 4 from rfl, pk_rem (by omega) (by omega) (by omega)]
  unfold kr_app
  refine kb_go 80 [] ?_
  refine kb_E_to (cr_file ha hf) ?_
  refine And.intro (fun _ => ?_) (fun h => absurd h (by decide))
  refine And.intro (by rw [hx]; exact hin) ?_
  refine And.intro rfl ?_
  have hch : ∀ S, S = kr_a2 R a f → kr_sz R (6 * a + f) < 24 → kb_E (kb_en kz_Model_change [.inr (some 33), .inl (nI a), .inl (nI f), .inl (nI (kr_sz R (6 * a + f))), .inl w] S) (fun q => q = (none, kr_ch (kr_a2 R a f) a f (kr_sz R (6 * a + f)) w)) := by
    intro S hS hlt
    rw [hS]
    exact cr_change (kr_a2_ok hR hlt) ha hf hlt w
  refine And.intro (fun h => ?_) (fun h => ?_)
  · have h := of_decide_eq_true h
    rw [hx, er] at h
    have h : ¬ nI (kr_sz R (6 * a + f) % 4) = nI 0 := h
    rw [nI_eq (by omega) (by omega)] at h
    rw [if_neg (fun q => h q.1)]
    refine And.intro (by rw [hx]; exact hin) ?_
    have h4 := hch _ (show kb_up R 35 (6 * a + f) (nI (kr_sz R (6 * a + f) + 1)) = kr_a2 R a f from by unfold kr_a2 kr_a1; rw [if_neg h]) (by omega)
    rw [nI_succ, ← h1, ← hcl, ← hx] at h4
    refine kb_E_to h4 (And.intro rfl ?_)
    rw [hx, hcl]
    rfl
  · have h := Classical.not_not.mp (of_decide_eq_false h)
    rw [hx, er] at h
    have h : nI (kr_sz R (6 * a + f) % 4) = nI 0 := h
    rw [nI_eq (by omega) (by omega)] at h
    refine kb_E_to (cr_blocksOf hR ha) ?_
    refine And.intro (fun h3 => ?_) (fun h3 => ?_)
    · have h3 : nI (kr_b R a 6) < nI 6 := of_decide_eq_true h3
      rw [nI_ltI (by omega) (by omega)] at h3
      rw [if_neg (fun q => by omega)]
      refine kb_E_to (cr_claim hR (b := 1) (by decide)) ?_
      refine And.intro (by rw [hx]; exact hin) ?_
      have h4 := hch _ (show kb_up (kr_cm R 1) 35 (6 * a + f) (nI (kr_sz R (6 * a + f) + 1)) = kr_a2 R a f from by unfold kr_a2 kr_a1; rw [if_pos h]) (by omega)
      rw [nI_succ, ← h1, ← hcl, ← hx] at h4
      refine kb_E_to h4 (And.intro rfl ?_)
      rw [hx, hcl]
      rfl
    · have h3 : ¬ nI (kr_b R a 6) < nI 6 := of_decide_eq_false h3
      rw [nI_ltI (by omega) (by omega)] at h3
      rw [if_pos ⟨h, by omega⟩]
      exact And.intro rfl rfl
set_option maxRecDepth 100000 in
theorem cr_append_no {R : kb_M} {app name : Int32} (h0 : ¬ kr_fl app name) (w : Int32) : kb_E (kb_en kz_Model_append [.inr (some 33), .inl app, .inl name, .inl w] R) (fun q => q = (some (.inl 0), R)) := by
  refine kb_go 40 [] ?_
  refine kb_E_to (cr_file_no h0) ?_
  exact And.intro (fun h => absurd h (by decide)) (fun _ => And.intro rfl rfl)
/-- erase: the first n parts of file f leave their frames -/
def kr_er (R : kb_M) (a f : Nat) : Nat → kb_M
  | 0 => R
  | n + 1 => match kr_fi (kr_er R a f n) a (nI (6 * f + n)) (kr_fr (kr_er R a f n) a) with
    | none => kr_er R a f n
    | some j => kr_rm (kr_er R a f n) a j
theorem kr_er_ok {R : kb_M} (hR : kr_ok R) {a : Nat} (ha : a < 2) (f : Nat) : ∀ n, kr_ok (kr_er R a f n) ∧ (kr_er R a f n) 35 = R 35 := by
  intro n
  induction n with
  | zero => exact ⟨hR, rfl⟩
  | succ n ih =>
    unfold kr_er
    cases hl : kr_fi (kr_er R a f n) a (nI (6 * f + n)) (kr_fr (kr_er R a f n) a) with
    | none => exact ih
    | some j =>
      refine ⟨(kr_rm_ok ih.1 ha (kr_fi_lt hl).1).1, ?_⟩
      show (kr_rm (kr_er R a f n) a j) 35 = R 35
      unfold kr_rm
      rw [kb_up_ne _ _ _ (by decide), kr_ri1_ne _ _ _ _ (by decide) (by decide)]
      exact ih.2
def kr_era (R : kb_M) (a f : Nat) : kb_M := kb_up (kr_er R a f ((kr_sz R (6 * a + f) + 3) / 4)) 35 (6 * a + f) 0
set_option maxRecDepth 100000 in
theorem cr_erase {R : kb_M} (hR : kr_ok R) {a f : Nat} (ha : a < 2) (hf : f < 6) : kb_E (kb_en kz_Model_erase [.inr (some 33), .inl (nI a), .inl (nI f)] R) (fun q => q = (some (.inl (nI ((kr_sz R (6 * a + f) + 3) / 4))), kr_era R a f)) := by
  obtain ⟨h1, h2⟩ := hR.2.1 (6 * a + f) (by omega)
  have hx := kr_6 (a := a) (by omega) f
  have hcl : (nI (6 * a + f)).toNatClampNeg = 6 * a + f := nI_clamp (by omega)
  have hin : kb_in (nI (6 * a + f)) 12 = true := kb_in_nI (by omega) (by omega)
  have loop : ∀ (k i : Nat) (v : Int32) (x : Option kb_v), i + k = (kr_sz R (6 * a + f) + 3) / 4 → v = nI i → kb_E (kz_Model_erase, 30, [some (.inr (some 33)), some (.inl (nI a)), some (.inl (nI f)), some (.inl (nI ((kr_sz R (6 * a + f) + 3) / 4))), some (.inl v), x], [], kr_er R a f i) (fun q => q = (some (.inl (nI ((kr_sz R (6 * a + f) + 3) / 4))), kr_era R a f)) := by
    intro k
    induction k with
    | zero =>
      intro i v x hi hv
      subst hv
      refine kb_go 60 [30] ?_
      refine And.intro (fun h => ?_) (fun h => ?_)
      · refine And.intro (by rw [hx]; exact hin) (And.intro rfl ?_)
        rw [hx, hcl, show i = (kr_sz R (6 * a + f) + 3) / 4 by omega]
        rfl
      · have h := of_decide_eq_false h
        rw [nI_leI (by omega) (by omega)] at h
        omega
    | succ k ih =>
      intro i v x hi hv
      subst hv
      have hok := (kr_er_ok hR ha f i).1
      have hle := (hok.2.2.1 a ha).2
      have hfd := cr_find hok ha (nI (6 * f + i))
      rw [← kr_6 hf] at hfd
      have hs : kr_er R a f (i + 1) = match kr_fi (kr_er R a f i) a (nI (6 * f + i)) (kr_fr (kr_er R a f i) a) with
        | none => kr_er R a f i
        | some j => kr_rm (kr_er R a f i) a j := rfl
      refine kb_go 60 [30] ?_
      refine And.intro (fun h => ?_) (fun _ => ?_)
      · have h := of_decide_eq_true h
        rw [nI_leI (by omega) (by omega)] at h
        omega
      · refine kb_E_to hfd ?_
        rw [kr_6 hf]
        cases hl : kr_fi (kr_er R a f i) a (nI (6 * f + i)) (kr_fr (kr_er R a f i) a) with
        | none =>
          rw [hl] at hs
          refine And.intro (fun _ => ?_) (fun h => absurd (show decide ((-1 : Int32) < 0) = false from h) (by decide))
          have h3 := fun x => ih (i + 1) _ x (by omega) (nI_succ i).symm
          rw [hs] at h3
          exact h3 _
        | some j =>
          rw [hl] at hs
          have hj := (kr_fi_lt hl).1
          refine And.intro (fun h => absurd (of_decide_eq_true h) (nI_pos (by omega))) (fun _ => ?_)
          refine kb_E_to (cr_remove hok ha hj) ?_
          have h3 := fun x => ih (i + 1) _ x (by omega) (nI_succ i).symm
          rw [hs] at h3
          exact h3 _
  refine kb_go 60 [30] ?_
  refine kb_E_to (cr_file ha hf) ?_
  refine And.intro (fun _ => ?_) (fun h => absurd h (by decide))
  refine And.intro (by rw [hx]; exact hin) (And.intro rfl ?_)
  have e3 : (R 35 ((Int8.ofInt 6).toInt32 * nI a + nI f).toNatClampNeg + Int32.ofInt 3) / Int32.ofInt 4 = nI ((kr_sz R (6 * a + f) + 3) / 4) := by
    rw [hx, hcl, h1, show Int32.ofInt 3 = nI 3 from rfl, show Int32.ofInt 4 = nI 4 from rfl, nI_add, pk_div (by omega) (by omega) (by omega)]
  have h0 := loop ((kr_sz R (6 * a + f) + 3) / 4) 0 0 none (by omega) rfl
  rw [← e3] at h0 ⊢
  exact h0
set_option maxRecDepth 100000 in
theorem cr_erase_no {R : kb_M} {app name : Int32} (h0 : ¬ kr_fl app name) : kb_E (kb_en kz_Model_erase [.inr (some 33), .inl app, .inl name] R) (fun q => q = (some (.inl (-1)), R)) := by
  refine kb_go 40 [] ?_
  refine kb_E_to (cr_file_no h0) ?_
  exact And.intro (fun h => absurd h (by decide)) (fun _ => And.intro rfl rfl)
/-- sync: the first n places of application a are stored -/
def kr_sy (R : kb_M) (a : Nat) : Nat → kb_M
  | 0 => R
  | n + 1 => kr_so (kr_sy R a n) (3 * a + n)
theorem kr_sy_ok {R : kb_M} (hR : kr_ok R) (a : Nat) : ∀ n, kr_ok (kr_sy R a n) ∧ (kr_sy R a n) 38 = R 38 := by
  intro n
  induction n with
  | zero => exact ⟨hR, rfl⟩
  | succ n ih =>
    refine ⟨kr_so_ok ih.1 _, ?_⟩
    show (kr_so (kr_sy R a n) (3 * a + n)) 38 = R 38
    unfold kr_so
    rw [kb_up_ne _ _ _ (by decide), kb_up_ne _ _ _ (by decide)]
    exact ih.2
theorem kr_app_of {v : Int32} (h : 0 ≤ v ∧ v ≤ 1) : ∃ a : Nat, a < 2 ∧ v = nI a := by
  obtain ⟨k, hk, e⟩ := kr_in v (n := 1) (by decide) h
  exact ⟨k, by omega, e⟩
set_option maxRecDepth 100000 in
theorem cr_sync {R : kb_M} (hR : kr_ok R) {a : Nat} (ha : a < 2) : kb_E (kb_en kz_Model_sync [.inr (some 33), .inl (nI a)] R) (fun q => q = (some (.inl ((kr_sy R a (kr_fr R a)) 33 1 - R 33 1)), kr_sy R a (kr_fr R a))) := by
  obtain ⟨hfr, hle⟩ := hR.2.2.1 a ha
  have ea : (nI a).toNatClampNeg = a := nI_clamp (by omega)
  have h1 := cr_within R (nI a) 0 1
  have h9 : (0 : Int32) ≤ nI a ∧ nI a ≤ 1 := kr_out (n := 1) (by omega) (by omega)
  rw [if_pos h9] at h1
  have loop : ∀ (k i : Nat) (v : Int32), i + k = kr_fr R a → v = nI (3 * a + i) → kb_E (kz_Model_sync, 20, [some (.inr (some 33)), some (.inl (nI a)), some (.inl (R 33 1)), some (.inl v)], [], kr_sy R a i) (fun q => q = (some (.inl ((kr_sy R a (kr_fr R a)) 33 1 - R 33 1)), kr_sy R a (kr_fr R a))) := by
    intro k
    induction k with
    | zero =>
      intro i v hi hv
      subst hv
      have e38 := (kr_sy_ok hR a i).2
      refine kb_go 60 [20] ?_
      refine And.intro (kb_in_nI ha (by omega)) ?_
      refine And.intro (fun h => ?_) (fun h => ?_)
      · rw [show kr_fr R a = i by omega]
        exact And.intro rfl rfl
      · have h := of_decide_eq_false h
        rw [ea, e38, hfr, kr_3, nI_add, nI_leI (by omega) (by omega)] at h
        omega
    | succ k ih =>
      intro i v hi hv
      subst hv
      have e38 := (kr_sy_ok hR a i).2
      refine kb_go 60 [20] ?_
      refine And.intro (kb_in_nI ha (by omega)) ?_
      refine And.intro (fun h => ?_) (fun _ => ?_)
      · have h := of_decide_eq_true h
        rw [ea, e38, hfr, kr_3, nI_add, nI_leI (by omega) (by omega)] at h
        omega
      · refine kb_E_to (cr_storeAt (kr_sy R a i) (j := 3 * a + i) (by omega)) ?_
        exact ih (i + 1) _ (by omega) (nI_succ _).symm
  refine kb_go 60 [20] ?_
  refine kb_E_to h1 ?_
  refine And.intro (fun _ => ?_) (fun h => absurd h (by decide))
  exact loop (kr_fr R a) 0 _ (by omega) (kr_3 a)
set_option maxRecDepth 100000 in
theorem cr_sync_no {R : kb_M} {v : Int32} (h0 : ¬ (0 ≤ v ∧ v ≤ 1)) : kb_E (kb_en kz_Model_sync [.inr (some 33), .inl v] R) (fun q => q = (some (.inl (-1)), R)) := by
  have h1 := cr_within R v 0 1
  rw [if_neg h0] at h1
  refine kb_go 60 [] ?_
  refine kb_E_to h1 ?_
  exact And.intro (fun h => absurd h (by decide)) (fun _ => And.intro rfl rfl)
def kr_sq (R : kb_M) (a : Nat) : kb_R := if kr_fr R a = 0 then (some (.inl 0), R) else (some (.inl 1), kr_rm (kr_so R (3 * a)) a 0)
set_option maxRecDepth 100000 in
theorem cr_squeeze {R : kb_M} (hR : kr_ok R) {a : Nat} (ha : a < 2) : kb_E (kb_en kz_Model_squeeze [.inr (some 33), .inl (nI a)] R) (fun q => q = kr_sq R a) := by
  obtain ⟨hfr, hle⟩ := hR.2.2.1 a ha
  have ea : (nI a).toNatClampNeg = a := nI_clamp (by omega)
  have h1 := cr_within R (nI a) 0 1
  have h9 : (0 : Int32) ≤ nI a ∧ nI a ≤ 1 := kr_out (n := 1) (by omega) (by omega)
  rw [if_pos h9] at h1
  unfold kr_sq
  refine kb_go 60 [] ?_
  refine kb_E_to h1 ?_
  refine And.intro (fun h => absurd h (by decide)) (fun _ => ?_)
  refine And.intro (kb_in_nI ha (by omega)) ?_
  refine And.intro (fun h => ?_) (fun h => ?_)
  · have h := of_decide_eq_true h
    rw [ea, hfr] at h
    have h : ¬ nI (kr_fr R a) = nI 0 := h
    rw [nI_eq (by omega) (by omega)] at h
    rw [if_neg h]
    have s1 := cr_storeAt R (j := 3 * a) (by omega)
    rw [← kr_3] at s1
    refine kb_E_to s1 ?_
    have s2 := cr_remove (kr_so_ok hR (3 * a)) (j := 0) ha (by rw [kr_so_fr]; omega)
    rw [Nat.add_zero, ← kr_3] at s2
    refine kb_E_to s2 ?_
    exact And.intro rfl rfl
  · have h := Classical.not_not.mp (of_decide_eq_false h)
    rw [ea, hfr] at h
    have h : nI (kr_fr R a) = nI 0 := h
    rw [nI_eq (by omega) (by omega)] at h
    rw [if_pos h]
    exact And.intro rfl rfl
set_option maxRecDepth 100000 in
theorem cr_squeeze_no {R : kb_M} {v : Int32} (h0 : ¬ (0 ≤ v ∧ v ≤ 1)) : kb_E (kb_en kz_Model_squeeze [.inr (some 33), .inl v] R) (fun q => q = (some (.inl 0), R)) := by
  have h1 := cr_within R v 0 1
  rw [if_neg h0] at h1
  refine kb_go 60 [] ?_
  refine kb_E_to h1 ?_
  exact And.intro (fun _ => And.intro rfl rfl) (fun h => absurd h (by decide))
