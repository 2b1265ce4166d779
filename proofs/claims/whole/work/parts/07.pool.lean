/-! the pool: its methods in plain words. A pool is cell c: c + 1 its holders (n of them), c + 2 its words -/
def kp_P (c n : Nat) : Prop := (c = 3 ∧ n = 12) ∨ (c = 6 ∧ n = 24)
/-- how many of the first n are e -/
def kp_c (f : Nat → Int32) (e : Int32) : Nat → Nat
  | 0 => 0
  | n + 1 => kp_c f e n + (if f n = e then 1 else 0)
theorem kp_c_le (f : Nat → Int32) (e : Int32) : ∀ n, kp_c f e n ≤ n := by
  intro n
  induction n with
  | zero => exact Nat.le_refl _
  | succ n ih => unfold kp_c; split <;> omega
theorem kb_E_to {s : kb_S} {X : kb_R} {Q : kb_R → Prop} (h : kb_E s (fun q => q = X)) (k : Q X) : kb_E s Q := kb_E_imp h (fun r hr => by rw [hr]; exact k)
theorem kb_in_nI {j n : Nat} (h : j < n) (hn : n < 2 ^ 31) : kb_in (nI j) n = true := by
  unfold kb_in
  rw [nI_clamp (by omega), decide_eq_false (nI_pos (by omega))]
  cases h1 : Nat.ble n j with
  | false => rfl
  | true => exact absurd (Nat.le_of_ble_eq_true h1) (by omega)
set_option maxRecDepth 100000 in
theorem cp_hasResource {c n : Nat} (hc : kp_P c n) (M : kb_M) {r : Nat} (hr : r < n) : kb_E (kb_en kz_Pool_hasResource [.inr (some c), .inl (nI r)] M) (fun q => q = (some (.inl 1), M)) := by
  rcases hc with ⟨rfl, rfl⟩ | ⟨rfl, rfl⟩
  · refine kb_go 20 [] ?_
    refine And.intro (fun h => ?_) (fun h => ?_)
    · exact absurd (of_decide_eq_true h) (nI_pos (by omega))
    · refine And.intro (fun h2 => ?_) (fun h2 => ?_)
      · exact absurd (of_decide_eq_true h2) (nI_ge (b := 12) (by omega) (by omega))
      · exact And.intro rfl rfl
  · refine kb_go 20 [] ?_
    refine And.intro (fun h => ?_) (fun h => ?_)
    · exact absurd (of_decide_eq_true h) (nI_pos (by omega))
    · refine And.intro (fun h2 => ?_) (fun h2 => ?_)
      · exact absurd (of_decide_eq_true h2) (nI_ge (b := 24) (by omega) (by omega))
      · exact And.intro rfl rfl
set_option maxRecDepth 100000 in
theorem cp_countHeldBy {c n : Nat} (hc : kp_P c n) (M : kb_M) (e : Int32) : kb_E (kb_en kz_Pool_countHeldBy [.inr (some c), .inl e] M) (fun q => q = (some (.inl (nI (kp_c (M (c + 1)) e n))), M)) := by
  have hn : n < 1000 := by rcases hc with ⟨rfl, rfl⟩ | ⟨rfl, rfl⟩ <;> decide
  have loop : ∀ (k i : Nat) (x : Option kb_v), i + k = n → kb_E (kz_Pool_countHeldBy, 14, [some (.inr (some c)), some (.inl e), some (.inl (nI (kp_c (M (c + 1)) e i))), some (.inr (some (c + 1))), some (.inl (nI n)), some (.inl (nI i)), x], [], M) (fun q => q = (some (.inl (nI (kp_c (M (c + 1)) e n))), M)) := by
    intro k
    induction k with
    | zero =>
      intro i x hi
      have hi : i = n := by omega
      subst hi
      refine kb_go 20 [14] ?_
      refine And.intro (fun h => ?_) (fun h => ?_)
      · exact And.intro rfl rfl
      · exact absurd (Int32.le_refl _) (of_decide_eq_false h)
    | succ k ih =>
      intro i x hi
      have hlt : i < n := by omega
      have hcl : (nI i).toNatClampNeg = i := nI_clamp (by omega)
      have hstep : kp_c (M (c + 1)) e (i + 1) = kp_c (M (c + 1)) e i + (if M (c + 1) i = e then 1 else 0) := rfl
      rcases hc with ⟨rfl, rfl⟩ | ⟨rfl, rfl⟩
      all_goals
        refine kb_go 20 [14] ?_
        refine And.intro (fun h => ?_) (fun h => ?_)
        · exact absurd (of_decide_eq_true h) (nI_ge hlt (by omega))
        · refine And.intro (kb_in_nI hlt (by omega)) ?_
          refine And.intro (fun h2 => ?_) (fun h2 => ?_)
          · have h2 := of_decide_eq_true h2
            rw [hcl] at h2
            have h3 := fun x => ih (i + 1) x (by omega)
            rw [hstep, if_neg h2, Nat.add_zero, nI_succ i] at h3
            exact h3 _
          · have h2 := of_decide_eq_false h2
            rw [hcl] at h2
            have h2 := Classical.not_not.mp h2
            have h3 := fun x => ih (i + 1) x (by omega)
            rw [hstep, if_pos h2, nI_succ (kp_c _ _ _), nI_succ i] at h3
            exact h3 _
  have h0 := loop n 0 none (by omega)
  rcases hc with ⟨rfl, rfl⟩ | ⟨rfl, rfl⟩
  · exact kb_go 20 [14] h0
  · exact kb_go 20 [14] h0
set_option maxRecDepth 100000 in
theorem cp_countFree {c n : Nat} (hc : kp_P c n) (M : kb_M) : kb_E (kb_en kz_Pool_countFree [.inr (some c)] M) (fun q => q = (some (.inl (nI (kp_c (M (c + 1)) (-1) n))), M)) := by
  have h := cp_countHeldBy hc M (-1)
  rcases hc with ⟨rfl, rfl⟩ | ⟨rfl, rfl⟩
  · refine kb_go 20 [] ?_
    exact kb_E_to h (And.intro rfl rfl)
  · refine kb_go 20 [] ?_
    exact kb_E_to h (And.intro rfl rfl)
theorem kp_lt {c n : Nat} (hc : kp_P c n) : n < 1000 := by rcases hc with ⟨rfl, rfl⟩ | ⟨rfl, rfl⟩ <;> decide
set_option maxRecDepth 100000 in
/-- the share: a number of the pool's own cell -/
theorem cp_hasFullShare {c n sh : Nat} (hc : kp_P c n) (M : kb_M) (e : Int32) (hs : M c 0 = nI sh) (hsh : sh < 1000) : kb_E (kb_en kz_Pool_hasFullShare [.inr (some c), .inl e] M) (fun q => q = (some (.inl (if sh ≤ kp_c (M (c + 1)) e n then 1 else 0)), M)) := by
  have h := cp_countHeldBy hc M e
  have hl := kp_c_le (M (c + 1)) e n
  have hn := kp_lt hc
  rcases hc with ⟨rfl, rfl⟩ | ⟨rfl, rfl⟩
  all_goals
    refine kb_go 20 [] ?_
    refine kb_E_to h ?_
    refine And.intro (fun h1 => ?_) (fun h1 => ?_)
    · have h1 := of_decide_eq_true h1
      have h1 : nI (kp_c (M (_ + 1)) e _) < M _ 0 := h1
      rw [hs, nI_ltI (by omega) (by omega)] at h1
      rw [if_neg (by omega)]
      exact And.intro rfl rfl
    · have h1 := of_decide_eq_false h1
      have h1 : ¬ nI (kp_c (M (_ + 1)) e _) < M _ 0 := h1
      rw [hs, nI_ltI (by omega) (by omega)] at h1
      rw [if_pos (by omega)]
      exact And.intro rfl rfl
set_option maxRecDepth 100000 in
theorem cp_endBinding {c n : Nat} (hc : kp_P c n) (M : kb_M) {r : Nat} (hr : r < n) : kb_E (kb_en kz_Pool_endBinding [.inr (some c), .inl (nI r)] M) (fun q => q = (none, kb_up M (c + 1) r (-1))) := by
  have hn := kp_lt hc
  have hcl : (nI r).toNatClampNeg = r := nI_clamp (by omega)
  rcases hc with ⟨rfl, rfl⟩ | ⟨rfl, rfl⟩
  all_goals
    refine kb_go 20 [] ?_
    refine And.intro (fun h => ?_) (fun h => ?_)
    · exact absurd (of_decide_eq_true h) (nI_pos (by omega))
    · refine And.intro (fun h2 => ?_) (fun h2 => ?_)
      · exact absurd (of_decide_eq_true h2) (nI_ge hr (by omega))
      · refine And.intro (kb_in_nI hr (by omega)) (And.intro rfl ?_)
        rw [hcl]
        rfl
set_option maxRecDepth 100000 in
theorem cp_hasWord {c n : Nat} (hc : kp_P c n) (M : kb_M) {r : Nat} (hr : r < n) (i : Int32) : kb_E (kb_en kz_Pool_hasWord [.inr (some c), .inl (nI r), .inl i] M) (fun q => q = (some (.inl (if 0 ≤ i ∧ i < 4 then 1 else 0)), M)) := by
  have h := cp_hasResource hc M hr
  rcases hc with ⟨rfl, rfl⟩ | ⟨rfl, rfl⟩
  all_goals
    refine kb_go 20 [] ?_
    refine kb_E_to h ?_
    refine And.intro (fun h1 => absurd h1 (by decide)) (fun _ => ?_)
    refine And.intro (fun h1 => ?_) (fun h1 => ?_)
    · have h1 : i < 0 := of_decide_eq_true h1
      rw [if_neg (fun q => absurd q.1 (Int32.not_le.mpr h1))]
      exact And.intro rfl rfl
    · have h1 : ¬ i < 0 := of_decide_eq_false h1
      refine And.intro (fun h2 => ?_) (fun h2 => ?_)
      · have h2 : 4 ≤ i := of_decide_eq_true h2
        rw [if_neg (fun q => absurd q.2 (Int32.not_lt.mpr h2))]
        exact And.intro rfl rfl
      · have h2 : ¬ 4 ≤ i := of_decide_eq_false h2
        rw [if_pos ⟨Int32.not_lt.mp h1, Int32.not_le.mp h2⟩]
        exact And.intro rfl rfl
theorem kp_ix (r k : Nat) : nI r * Int32.ofInt 4 + nI k = nI (r * 4 + k) := by
  rw [show Int32.ofInt 4 = nI 4 from rfl, pk_mul, nI_add]
theorem kp_in4 {i : Int32} (h : 0 ≤ i ∧ i < 4) : ∃ k : Nat, k < 4 ∧ i = nI k := by
  rcases pk_ix i (n := 4) (by decide) with h1 | h1 | h1
  · exact absurd h.1 (Int32.not_le.mpr h1)
  · exact absurd h.2 (Int32.not_lt.mpr h1)
  · exact h1
set_option maxRecDepth 100000 in
theorem cp_wordAt {c n : Nat} (hc : kp_P c n) (M : kb_M) {r : Nat} (hr : r < n) (i : Int32) : kb_E (kb_en kz_Pool_wordAt [.inr (some c), .inl (nI r), .inl i] M) (fun q => q = (some (.inl (if 0 ≤ i ∧ i < 4 then M (c + 2) (4 * r + i.toNatClampNeg) else 0)), M)) := by
  have h := cp_hasWord hc M hr i
  have hn := kp_lt hc
  by_cases hi : 0 ≤ i ∧ i < 4
  · rw [if_pos hi] at h ⊢
    obtain ⟨k, hk, rfl⟩ := kp_in4 hi
    rw [nI_clamp (by omega)]
    have hx : (nI r * Int32.ofInt 4 + nI k).toNatClampNeg = 4 * r + k := by rw [kp_ix, nI_clamp (by omega)]; omega
    rcases hc with ⟨rfl, rfl⟩ | ⟨rfl, rfl⟩
    all_goals
      refine kb_go 20 [] ?_
      refine kb_E_to h ?_
      refine And.intro (fun h1 => absurd h1 (by decide)) (fun _ => ?_)
      refine And.intro ?_ (And.intro rfl ?_)
      · rw [kp_ix]
        exact kb_in_nI (by omega) (by omega)
      · rw [hx]
  · rw [if_neg hi] at h ⊢
    rcases hc with ⟨rfl, rfl⟩ | ⟨rfl, rfl⟩
    all_goals
      refine kb_go 20 [] ?_
      refine kb_E_to h ?_
      refine And.intro (fun _ => And.intro rfl rfl) (fun h1 => absurd h1 (by decide))
set_option maxRecDepth 100000 in
theorem cp_setWord {c n : Nat} (hc : kp_P c n) (M : kb_M) {r : Nat} (hr : r < n) (i w : Int32) : kb_E (kb_en kz_Pool_setWord [.inr (some c), .inl (nI r), .inl i, .inl w] M) (fun q => q = if 0 ≤ i ∧ i < 4 then (some (.inl 1), kb_up M (c + 2) (4 * r + i.toNatClampNeg) w) else (some (.inl 0), M)) := by
  have h := cp_hasWord hc M hr i
  have hn := kp_lt hc
  by_cases hi : 0 ≤ i ∧ i < 4
  · rw [if_pos hi] at h ⊢
    obtain ⟨k, hk, rfl⟩ := kp_in4 hi
    rw [nI_clamp (by omega)]
    have hx : (nI r * Int32.ofInt 4 + nI k).toNatClampNeg = 4 * r + k := by rw [kp_ix, nI_clamp (by omega)]; omega
    rcases hc with ⟨rfl, rfl⟩ | ⟨rfl, rfl⟩
    all_goals
      refine kb_go 20 [] ?_
      refine kb_E_to h ?_
      refine And.intro (fun _ => ?_) (fun h1 => absurd h1 (by decide))
      refine And.intro ?_ (And.intro rfl ?_)
      · rw [kp_ix]
        exact kb_in_nI (by omega) (by omega)
      · rw [hx]
        rfl
  · rw [if_neg hi] at h ⊢
    rcases hc with ⟨rfl, rfl⟩ | ⟨rfl, rfl⟩
    all_goals
      refine kb_go 20 [] ?_
      refine kb_E_to h ?_
      refine And.intro (fun h1 => absurd h1 (by decide)) (fun _ => And.intro rfl rfl)
/-- four words of cell a from 4 * f on go to cell d from 4 * t on -/
def kp_cp (M : kb_M) (a d f t : Nat) : kb_M := kb_ro M d (va_cpy (M a) (M d) (4 * f) (4 * t) 4)
set_option maxRecDepth 100000 in
theorem cp_takeWordsFrom {c n c1 n1 : Nat} (hc : kp_P c n) (hc1 : kp_P c1 n1) (M : kb_M) {f t : Nat} (hf : f < n1) (ht : t < n) : kb_E (kb_en kz_Pool_takeWordsFrom [.inr (some c), .inr (some c1), .inl (nI f), .inl (nI t)] M) (fun q => q = (none, kp_cp M (c1 + 2) (c + 2) f t)) := by
  have h1 := cp_hasResource hc1 M hf
  have h2 := cp_hasResource hc M ht
  have hn := kp_lt hc
  have hn1 := kp_lt hc1
  have e1 : nI f * Int32.ofInt 4 = nI (4 * f) := by rw [show Int32.ofInt 4 = nI 4 from rfl, pk_mul, Nat.mul_comm]
  have e2 : nI t * Int32.ofInt 4 = nI (4 * t) := by rw [show Int32.ofInt 4 = nI 4 from rfl, pk_mul, Nat.mul_comm]
  have g1 : (nI (4 * f)).toNatClampNeg = 4 * f := nI_clamp (by omega)
  have g2 : (nI (4 * t)).toNatClampNeg = 4 * t := nI_clamp (by omega)
  have hcp : ∀ {a b : Nat}, 4 * f + 4 ≤ a → 4 * t + 4 ≤ b → kb_cpo (nI f * Int32.ofInt 4) (nI t * Int32.ofInt 4) (Int32.ofInt 4) a b = true := by
    intro a b ha hb
    unfold kb_cpo
    rw [e1, e2, g1, g2, decide_eq_false (nI_pos (by omega)), decide_eq_false (nI_pos (by omega)), show (Int32.ofInt 4).toNatClampNeg = 4 from rfl, Nat.ble_eq_true_of_le ha, Nat.ble_eq_true_of_le hb]
    rfl
  rcases hc with ⟨rfl, rfl⟩ | ⟨rfl, rfl⟩ <;> rcases hc1 with ⟨rfl, rfl⟩ | ⟨rfl, rfl⟩
  all_goals
    refine kb_go 30 [] ?_
    refine kb_E_to h1 ?_
    refine And.intro (fun h1 => absurd h1 (by decide)) (fun _ => ?_)
    refine kb_E_to h2 ?_
    refine And.intro (fun h1 => absurd h1 (by decide)) (fun _ => ?_)
    refine And.intro (hcp (by omega) (by omega)) (And.intro rfl ?_)
    rw [e1, e2, g1, g2]
    rfl
theorem kp_zero (M : kb_M) (c i : Nat) : kb_up (kb_up (kb_up (kb_up M c (i * 4 + 0) 0) c (i * 4 + 1) 0) c (i * 4 + 2) 0) c (i * 4 + 3) 0 = kb_ro M c (fun j => if j / 4 = i then 0 else M c j) := by
  funext a j
  by_cases ha : a = c
  · subst ha
    simp only [kb_up, kb_ro, upd, if_true]
    repeat' split
    all_goals first | rfl | omega
  · simp only [kb_up, kb_ro, if_neg ha]
theorem kp_zero2 (M : kb_M) (c1 c i : Nat) (e : Int32) (h : c ≠ c1) : kb_up (kb_up (kb_up (kb_up (kb_up M c1 i e) c (i * 4 + 0) 0) c (i * 4 + 1) 0) c (i * 4 + 2) 0) c (i * 4 + 3) 0 = kb_ro (kb_up M c1 i e) c (fun j => if j / 4 = i then 0 else M c j) := by
  rw [kp_zero]
  have e1 : (kb_up M c1 i e) c = M c := by simp only [kb_up, kb_ro, if_neg h]
  rw [e1]
set_option maxRecDepth 100000 in
set_option maxHeartbeats 4000000 in
theorem cp_bindFreeOne {c n : Nat} (hc : kp_P c n) (M : kb_M) (e : Int32) : kb_E (kb_en kz_Pool_bindFreeOne [.inr (some c), .inl e] M) (fun q => (∃ i, i < n ∧ M (c + 1) i = -1 ∧ q = (some (.inl (nI i)), kb_ro (kb_up M (c + 1) i e) (c + 2) (fun j => if j / 4 = i then 0 else M (c + 2) j))) ∨ ((∀ i, i < n → M (c + 1) i ≠ -1) ∧ q = (some (.inl (-1)), M))) := by
  have hn := kp_lt hc
  have loop : ∀ (k i : Nat) (x : Option kb_v), i + k = n → (∀ j, j < i → M (c + 1) j ≠ -1) → kb_E (kz_Pool_bindFreeOne, 2, [some (.inr (some c)), some (.inl e), some (.inl (nI i)), x], [], M) (fun q => (∃ i, i < n ∧ M (c + 1) i = -1 ∧ q = (some (.inl (nI i)), kb_ro (kb_up M (c + 1) i e) (c + 2) (fun j => if j / 4 = i then 0 else M (c + 2) j))) ∨ ((∀ i, i < n → M (c + 1) i ≠ -1) ∧ q = (some (.inl (-1)), M))) := by
    intro k
    induction k with
    | zero =>
      intro i x hi hj
      have hi : i = n := by omega
      subst hi
      rcases hc with ⟨rfl, rfl⟩ | ⟨rfl, rfl⟩
      all_goals
        refine kb_go 80 [2] ?_
        refine And.intro (fun h => ?_) (fun h => absurd (Int32.le_refl _) (of_decide_eq_false h))
        exact And.intro rfl (Or.inr ⟨hj, rfl⟩)
    | succ k ih =>
      intro i x hi hj
      have hlt : i < n := by omega
      have hcl : (nI i).toNatClampNeg = i := nI_clamp (by omega)
      have hx : ∀ k, k < 4 → (nI i * Int32.ofInt 4 + nI k).toNatClampNeg = i * 4 + k := fun k hk => by rw [kp_ix, nI_clamp (by omega)]
      have hix : ∀ k a, k < 4 → 4 * n ≤ a → a < 5000 → kb_in (nI i * Int32.ofInt 4 + nI k) a = true := fun k a hk ha ha2 => by rw [kp_ix]; exact kb_in_nI (by omega) (by omega)
      rcases hc with ⟨rfl, rfl⟩ | ⟨rfl, rfl⟩
      all_goals
        refine kb_go 80 [2] ?_
        refine And.intro (fun h => absurd (of_decide_eq_true h) (nI_ge hlt (by omega))) (fun _ => ?_)
        refine And.intro (kb_in_nI hlt (by omega)) ?_
        refine And.intro (fun h2 => ?_) (fun h2 => ?_)
        · have h2 := of_decide_eq_true h2
          rw [hcl] at h2
          have h3 := ih (i + 1) x (by omega) (fun j hj2 => by
            by_cases hji : j = i
            · rw [hji]; exact h2
            · exact hj j (by omega))
          rw [nI_succ] at h3
          exact h3
        · have h2 := Classical.not_not.mp (of_decide_eq_false h2)
          rw [hcl] at h2
          refine And.intro (kb_in_nI hlt (by omega)) ?_
          refine And.intro (fun h => absurd h (by decide)) (fun _ => And.intro (hix 0 _ (by decide) (by decide) (by decide)) ?_)
          refine And.intro (fun h => absurd h (by decide)) (fun _ => And.intro (hix 1 _ (by decide) (by decide) (by decide)) ?_)
          refine And.intro (fun h => absurd h (by decide)) (fun _ => And.intro (hix 2 _ (by decide) (by decide) (by decide)) ?_)
          refine And.intro (fun h => absurd h (by decide)) (fun _ => And.intro (hix 3 _ (by decide) (by decide) (by decide)) ?_)
          refine And.intro (fun _ => ?_) (fun h => absurd h (by decide))
          refine And.intro rfl (Or.inl ⟨i, hlt, h2, ?_⟩)
          rw [hcl]
          refine congrArg (Prod.mk _) (Eq.trans ?_ (kp_zero2 M _ _ i e (by decide)))
          rw [← hx 0 (by decide), ← hx 1 (by decide), ← hx 2 (by decide), ← hx 3 (by decide)]
          rfl
  have h0 := loop n 0 none (by omega) (fun j hj => absurd hj (by omega))
  rcases hc with ⟨rfl, rfl⟩ | ⟨rfl, rfl⟩
  · exact kb_go 20 [2] h0
  · exact kb_go 20 [2] h0
