/-! the public methods that concern guests, time and counts -/
/-- the time; deadlines lie ahead of it -/
def ki_T (N : Nat) (R : kb_M) : Prop := ∃ n, R 33 0 = nI n ∧ n ≤ 55 * N ∧ ∀ g t, g < 2 → t < kr_bd R g → R 42 (60 * g + t) = 3 → ∃ d, R 43 (60 * g + t) = nI d ∧ n < d ∧ d ≤ n + 5
def ki_V (N : Nat) (C R : kb_M) : Prop := ki_J N C R ∧ ki_T N R ∧ ki_K C R ∧ ki_L C R ∧ ki_X C R
theorem kt_dl {N : Nat} {R : kb_M} (h : ki_T N R) (hN : N ≤ 600) : kr_dl R := by
  obtain ⟨n, -, h2, h3⟩ := h
  intro g t hg ht hs
  obtain ⟨d, d1, d2, d3⟩ := h3 g t hg ht hs
  exact ⟨d, by omega, d1⟩
theorem kt_same {N : Nat} {R S : kb_M} (h : ki_T N R) (h33 : S 33 0 = R 33 0) (h39 : S 39 = R 39) (h4 : ∀ j, S 42 j = 3 → R 42 j = 3 ∧ S 43 j = R 43 j) : ki_T N S := by
  obtain ⟨n, h1, h2, h3⟩ := h
  refine ⟨n, h33.trans h1, h2, fun g t hg ht hs => ?_⟩
  obtain ⟨q1, q2⟩ := h4 _ hs
  rw [q2]
  unfold kr_bd at ht
  rw [h39] at ht
  exact h3 g t hg ht q1
theorem kv_same {N : Nat} {C D R S : kb_M} (h : ki_V N C R) (J : ki_J N D S) (T : ki_T N S) (d1 : D 1 0 = C 1 0) (d3 : D 3 = C 3) (d6 : D 6 = C 6) (d9 : D 9 0 = C 9 0) (d14 : D 14 0 = C 14 0) (d19 : D 19 = C 19) (d26 : D 26 = C 26) (s33 : S 33 = R 33) (s40 : S 40 = R 40) : ki_V N D S := by
  obtain ⟨-, -, ⟨k1, k2, k3, k4, k5⟩, hL, ⟨x1, x2⟩⟩ := h
  refine ⟨J, T, ⟨by rw [d1, s33]; exact k1, by rw [d3]; exact k2, by rw [d6]; exact k3, by rw [d19]; exact k4, by rw [d26]; exact k5⟩, fun g hg => ?_, by rw [d19, d26, s33]; exact x1, by rw [d19, d26, s33]; exact x2⟩
  rw [s40, ← hL g hg]
  match g, hg with
  | 0, _ => exact d9
  | 1, _ => exact d14
theorem kr_i4 {i : Int32} : (0 ≤ i ∧ i < 4) ↔ (0 ≤ i ∧ i ≤ 3) := by
  constructor
  · intro h
    obtain ⟨k, hk, rfl⟩ := kp_in4 h
    exact kr_out (n := 3) (by omega) (by omega)
  · intro h
    obtain ⟨k, hk, rfl⟩ := kr_in i (n := 3) (by decide) h
    exact ⟨h.1, nI_lt (b := 4) (by omega) (by omega)⟩
/-- what the class knows of ticket v of guest g -/
theorem kv_dead {N : Nat} {C R : kb_M} (h : ki_J N C R) {g : Nat} (hg : g < 2) {v : Int32} (hl : kr_lt R (nI (2 + g)) v = none) : ∀ t, t < kr_bd R g → v = nI t → ¬ (C (9 + 5 * g + 3) t = 2 ∨ C (9 + 5 * g + 3) t = 3) := by
  intro t ht hv
  rw [hv, kr_lt_at h.1 hg ht] at hl
  rw [show 9 + 5 * g + 3 = 12 + 5 * g by omega, ((h.2.2.2.2.1 g hg).2.1 t ht).2.1]
  intro q
  have : 2 ≤ R 42 (60 * g + t) := by
    rcases q with q | q
    · rw [q]; decide
    · rw [q]; decide
  rw [if_pos this] at hl
  cases hl
theorem kv_live {N : Nat} {C R : kb_M} (h : ki_J N C R) {g : Nat} (hg : g < 2) {v : Int32} {j : Nat} (hl : kr_lt R (nI (2 + g)) v = some j) : ∃ t b r, t < kr_bd R g ∧ v = nI t ∧ j = 60 * g + t ∧ j < 120 ∧ 2 ≤ R 42 j ∧ (C (9 + 5 * g + 3) t = 2 ∨ C (9 + 5 * g + 3) t = 3) ∧ C (9 + 5 * g + 3) t = R 42 j ∧ b < 2 ∧ R 41 j = nI b ∧ C (9 + 5 * g + 1) t = nI b ∧ r < 12 + 12 * b ∧ C (9 + 5 * g + 2) t = nI r ∧ (∀ k, k < 4 → C (5 + 3 * b) (4 * r + k) = R 44 (4 * j + k)) := by
  obtain ⟨g', t, hg', ht, e1, e2, e3, e4, e5⟩ := kr_lt_lt h.1 hl
  have eg : g = g' := by
    have := (nI_eq (a := 2 + g) (b := 2 + g') (by omega) (by omega)).mp e1
    omega
  subst eg
  obtain ⟨b, hb, hk⟩ := kr_kd h.1 e4
  obtain ⟨t1, t2, -⟩ := (h.2.2.2.2.1 g hg).2.1 t ht
  obtain ⟨r, r1, r2, r3, r4⟩ := (h.2.2.2.2.1 g hg).2.2.1 t ht (by rw [← e3]; exact e5) b hb (by rw [← e3]; exact hk)
  rw [← e3] at t1 t2 r4
  obtain ⟨s, s1, s2⟩ := h.2.1 j e4
  refine ⟨t, b, r, ht, e2, e3, e4, e5, ?_, ?_, hb, hk, ?_, r1, ?_, r4⟩
  · rw [show 9 + 5 * g + 3 = 12 + 5 * g by omega, t2, s2]
    rw [s2, kr_2 (by omega)] at e5
    have : s = 2 ∨ s = 3 := by omega
    rcases this with rfl | rfl
    · exact Or.inl rfl
    · exact Or.inr rfl
  · rw [show 9 + 5 * g + 3 = 12 + 5 * g by omega]; exact t2
  · rw [show 9 + 5 * g + 1 = 10 + 5 * g by omega, t1]; exact hk
  · rw [show 9 + 5 * g + 2 = 11 + 5 * g by omega]; exact r2
theorem kg_in {g : Nat} (hg : g < 2) : kg_P (9 + 5 * g) := by
  match g, hg with
  | 0, _ => exact Or.inl rfl
  | 1, _ => exact Or.inr rfl
theorem kv_tc {N : Nat} {C R : kb_M} (h : ki_J N C R) {g : Nat} (hg : g < 2) : C (9 + 5 * g) 7 = nI (kr_bd R g) ∧ kr_bd R g ≤ 60 := ⟨(h.2.2.2.2.1 g hg).1.trans (h.1.1 g hg).1, (h.1.1 g hg).2⟩
theorem kr_lt_no {R : kb_M} {u : Int32} (hu : ¬ (2 ≤ u ∧ u ≤ 3)) (v : Int32) : kr_lt R u v = none := by
  unfold kr_lt
  rw [if_neg (fun q => hu q.1)]
-- time
set_option maxRecDepth 100000 in
theorem op_time {N : Nat} {C R : kb_M} (h : ki_V N C R) : kb_E (kb_en kz_BK_time [.inr (some 0)] C) (fun q => q = (some (.inl (R 33 0)), C)) := by
  refine kb_go 20 [] ?_
  refine And.intro rfl ?_
  show (some (Sum.inl (C 1 0)), C) = _
  rw [h.2.2.1.1]
set_option maxRecDepth 100000 in
theorem op_transfers {N : Nat} {C R : kb_M} (h : ki_V N C R) {b : Nat} (hb : b < 2) : kb_E (kb_en kz_BK_transfers [.inr (some 0), .inl (nI b)] C) (fun q => q = (some (.inl (if nI b = 0 then R 33 2 else R 33 1)), C)) := by
  obtain ⟨-, -, -, -, x1, x2⟩ := h
  match b, hb with
  | 0, _ =>
    rw [if_pos (show nI 0 = 0 from rfl)]
    refine kb_go 100 [] ?_
    refine And.intro (fun h => absurd h (by decide)) (fun _ => And.intro rfl ?_)
    refine And.intro (fun _ => ?_) (fun h => absurd h (by decide))
    refine And.intro (fun h => absurd h (by decide)) (fun _ => And.intro rfl ?_)
    refine And.intro (fun _ => ?_) (fun h => absurd h (by decide))
    refine And.intro (fun _ => ?_) (fun h => absurd h (by decide))
    refine And.intro rfl ?_
    show (some (Sum.inl (Int32.ofInt 0 + C 19 0 + C 26 0)), C) = _
    rw [show Int32.ofInt 0 = 0 from rfl, Int32.zero_add, x1]
  | 1, _ =>
    rw [if_neg (show ¬ nI 1 = 0 by decide)]
    refine kb_go 100 [] ?_
    refine And.intro (fun h => absurd h (by decide)) (fun _ => And.intro rfl ?_)
    refine And.intro (fun h => absurd h (by decide)) (fun _ => ?_)
    refine And.intro (fun h => absurd h (by decide)) (fun _ => And.intro rfl ?_)
    refine And.intro (fun h => absurd h (by decide)) (fun _ => ?_)
    refine And.intro (fun _ => ?_) (fun h => absurd h (by decide))
    refine And.intro rfl ?_
    show (some (Sum.inl (Int32.ofInt 0 + C 19 1 + C 26 1)), C) = _
    rw [show Int32.ofInt 0 = 0 from rfl, Int32.zero_add, x2]
set_option maxRecDepth 100000 in
theorem op_free {N : Nat} {C R : kb_M} (h : ki_V N C R) {b : Nat} (hb : b < 2) : kb_E (kb_en kz_BK_free [.inr (some 0), .inl (nI b)] C) (fun q => q = (some (.inl (kr_f R b)), C)) := by
  have F := cp_countFree (kp_b hb) C
  rw [show 3 + 3 * b + 1 = 4 + 3 * b by omega, ← kx_free h.1 hb] at F
  refine kb_go 20 [] ?_
  refine kb_E_to (ck_poolOf C hb) ?_
  match b, hb with
  | 0, _ => exact kb_E_to F (And.intro rfl rfl)
  | 1, _ => exact kb_E_to F (And.intro rfl rfl)
set_option maxRecDepth 100000 in
theorem op_isEnv (C : kb_M) (v : Int32) : kb_E (kb_en kz_BK_isEnvironment [.inl v] C) (fun q => q = (some (.inl (if 0 ≤ v ∧ v ≤ 3 then 1 else 0)), C)) := by
  refine kb_go 20 [] ?_
  refine And.intro (fun h => ?_) (fun h => ?_)
  · have h : v < 0 := of_decide_eq_true h
    rw [if_neg (fun q => absurd q.1 (Int32.not_le.mpr h))]
    exact And.intro rfl rfl
  · have h : ¬ v < 0 := of_decide_eq_false h
    refine And.intro (fun h2 => ?_) (fun h2 => ?_)
    · have h2 : 4 ≤ v := of_decide_eq_true h2
      rw [if_neg (fun q => absurd (kr_i4.mpr q).2 (Int32.not_lt.mpr h2))]
      exact And.intro rfl rfl
    · have h2 : ¬ 4 ≤ v := of_decide_eq_false h2
      rw [if_pos (kr_i4.mp ⟨Int32.not_lt.mp h, Int32.not_le.mp h2⟩)]
      exact And.intro rfl rfl
set_option maxRecDepth 100000 in
theorem op_held {N : Nat} {C R : kb_M} (h : ki_V N C R) (v : Int32) {b : Nat} (hb : b < 2) : kb_E (kb_en kz_BK_held [.inr (some 0), .inl v, .inl (nI b)] C) (fun q => q = (some (.inl (if 0 ≤ v ∧ v ≤ 3 then nI (kr_c R v.toNatClampNeg b) else -1)), C)) := by
  refine kb_go 40 [] ?_
  refine kb_E_to (op_isEnv C v) ?_
  by_cases hv : 0 ≤ v ∧ v ≤ 3
  · rw [if_pos hv, if_pos hv]
    obtain ⟨e, he, rfl⟩ := kr_env hv
    have F := cp_countHeldBy (kp_b hb) C (nI e)
    rw [show 3 + 3 * b + 1 = 4 + 3 * b by omega, h.1.2.2.2.1 b hb e he] at F
    rw [nI_clamp (by omega)]
    refine And.intro (fun h => absurd h (by decide)) (fun _ => ?_)
    refine kb_E_to (ck_poolOf C hb) ?_
    match b, hb with
    | 0, _ => exact kb_E_to F (And.intro rfl rfl)
    | 1, _ => exact kb_E_to F (And.intro rfl rfl)
  · rw [if_neg hv, if_neg hv]
    exact And.intro (fun _ => And.intro rfl rfl) (fun h => absurd h (by decide))
set_option maxRecDepth 100000 in
theorem op_losses {N : Nat} {C R : kb_M} (h : ki_V N C R) (v : Int32) : kb_E (kb_en kz_BK_losses [.inr (some 0), .inl v] C) (fun q => q = (some (.inl (if 0 ≤ v ∧ v ≤ 3 then (if v < 2 then 0 else R 40 (v - 2).toNatClampNeg) else -1)), C)) := by
  refine kb_go 40 [] ?_
  refine kb_E_to (op_isEnv C v) ?_
  by_cases hv : 0 ≤ v ∧ v ≤ 3
  · rw [if_pos hv, if_pos hv]
    obtain ⟨e, he, rfl⟩ := kr_env hv
    refine And.intro (fun _ => ?_) (fun h => absurd h (by decide))
    rcases kr_env2 he with he2 | ⟨g, hg, rfl⟩
    · have h2 : nI e < 2 := nI_lt (b := 2) he2 (by omega)
      rw [if_pos h2]
      refine kb_E_to (ck_guestOf_no C (fun q => absurd q.1 (Int32.not_le.mpr h2))) ?_
      exact And.intro rfl rfl
    · have h2 : ¬ nI (2 + g) < 2 := nI_nlt (a := 2 + g) (b := 2) (by omega) (by omega)
      rw [if_neg h2]
      refine kb_E_to (ck_guestOf C hg) ?_
      have hL := h.2.2.2.1 g hg
      have eg : (nI (2 + g) - 2).toNatClampNeg = g := by rw [show nI (2 + g) - 2 = nI g from kr_g2 hg, nI_clamp (by omega)]
      rw [eg, ← hL]
      match g, hg with
      | 0, _ => exact And.intro rfl rfl
      | 1, _ => exact And.intro rfl rfl
  · rw [if_neg hv, if_neg hv]
    exact And.intro (fun h => absurd h (by decide)) (fun _ => And.intro rfl rfl)
set_option maxRecDepth 100000 in
theorem op_state {N : Nat} {C R : kb_M} (h : ki_V N C R) (u v : Int32) : kb_E (kb_en kz_BK_state [.inr (some 0), .inl u, .inl v] C) (fun q => q = (some (.inl (if (2 ≤ u ∧ u ≤ 3) ∧ (0 ≤ v ∧ v ≤ R 39 (u - 2).toNatClampNeg - 1) then R 42 (60 * (u - 2).toNatClampNeg + v.toNatClampNeg) else -1)), C)) := by
  refine kb_go 40 [] ?_
  by_cases hu : 2 ≤ u ∧ u ≤ 3
  · obtain ⟨g, hg, rfl⟩ := kr_gst hu
    have eg : (nI (2 + g) - 2).toNatClampNeg = g := by rw [show nI (2 + g) - 2 = nI g from kr_g2 hg, nI_clamp (by omega)]
    obtain ⟨t1, t2⟩ := kv_tc h.1 hg
    have hbd := (h.1.1.1 g hg).1
    have S := cg_stateOf (kg_in hg) t1 t2 v
    rw [eg, hbd]
    refine kb_E_to (ck_guestOf C hg) ?_
    have K : ∀ x, (if 0 ≤ v ∧ v ≤ nI (kr_bd R g) - 1 then C (9 + 5 * g + 3) v.toNatClampNeg else -1) = x → (if (2 ≤ nI (2 + g) ∧ nI (2 + g) ≤ 3) ∧ 0 ≤ v ∧ v ≤ nI (kr_bd R g) - 1 then R 42 (60 * g + v.toNatClampNeg) else -1) = x := by
      intro x hx
      rw [← hx]
      by_cases hv : 0 ≤ v ∧ v ≤ nI (kr_bd R g) - 1
      · rw [if_pos hv, if_pos ⟨hu, hv⟩]
        obtain ⟨t, ht, rfl⟩ := (kr_tk (by omega)).mp hv
        rw [nI_clamp (by omega), show 9 + 5 * g + 3 = 12 + 5 * g by omega, ((h.1.2.2.2.2.1 g hg).2.1 t ht).2.1]
      · rw [if_neg hv, if_neg (fun q => hv q.2)]
    rw [K _ rfl]
    match g, hg with
    | 0, _ => exact kb_E_to S (And.intro rfl rfl)
    | 1, _ => exact kb_E_to S (And.intro rfl rfl)
  · refine kb_E_to (ck_guestOf_no C hu) ?_
    rw [if_neg (fun q => hu q.1)]
    exact And.intro rfl rfl
set_option maxRecDepth 100000 in
theorem op_get {N : Nat} {C R : kb_M} (h : ki_V N C R) (u v i : Int32) : kb_E (kb_en kz_BK_get [.inr (some 0), .inl u, .inl v, .inl i] C) (fun q => q = (some (.inl (kr_get R u v i)), C)) := by
  refine kb_go 40 [] ?_
  by_cases hu : 2 ≤ u ∧ u ≤ 3
  · obtain ⟨g, hg, rfl⟩ := kr_gst hu
    obtain ⟨t1, t2⟩ := kv_tc h.1 hg
    refine kb_E_to (ck_guestOf C hg) ?_
    have W : kb_E (kb_en kz_Guest_getWord [.inr (some (9 + 5 * g)), .inl v, .inl i] C) (fun q => q = (some (.inl (kr_get R (nI (2 + g)) v i)), C)) := by
      unfold kr_get
      cases hl : kr_lt R (nI (2 + g)) v with
      | none => exact cg_getWord_n (kg_in hg) (cg_isLiveOf_n (kg_in hg) t1 t2 (kv_dead h.1 hg hl) 0) i
      | some j =>
        obtain ⟨t, b, r, w1, rfl, w3, w4, w5, w6, w7, w8, w9, w10, w11, w12, w13⟩ := kv_live h.1 hg hl
        match b, w8 with
        | 0, _ =>
          have G := cg_getWord_y (kg_in hg) t1 t2 w1 w6 w10 w12 w11 i
          show kb_E _ (fun q => q = (some (Sum.inl (if R 41 j = 0 ∧ 0 ≤ i ∧ i ≤ 3 then R 44 (4 * j + i.toNatClampNeg) else 0)), C))
          by_cases hi : 0 ≤ i ∧ i ≤ 3
          · rw [if_pos ⟨w9, hi⟩]
            rw [if_pos (kr_i4.mpr hi)] at G
            obtain ⟨k, hk, rfl⟩ := kr_in i (n := 3) (by decide) hi
            rw [nI_clamp (by omega)] at G ⊢
            rw [← w13 k (by omega)]
            exact G
          · rw [if_neg (fun q => hi q.2)]
            rw [if_neg (fun q => hi (kr_i4.mp q))] at G
            exact G
        | 1, _ =>
          have I := cg_isLiveOf_y (kg_in hg) t1 t2 w1 w6 0
          rw [if_neg (by rw [w10]; decide)] at I
          show kb_E _ (fun q => q = (some (Sum.inl (if R 41 j = 0 ∧ 0 ≤ i ∧ i ≤ 3 then R 44 (4 * j + i.toNatClampNeg) else 0)), C))
          rw [if_neg (fun q => by rw [w9] at q; exact absurd q.1 (by decide))]
          exact cg_getWord_n (kg_in hg) I i
    match g, hg with
    | 0, _ => exact kb_E_to W (And.intro rfl rfl)
    | 1, _ => exact kb_E_to W (And.intro rfl rfl)
  · refine kb_E_to (ck_guestOf_no C hu) ?_
    unfold kr_get
    rw [kr_lt_no hu]
    exact And.intro rfl rfl
