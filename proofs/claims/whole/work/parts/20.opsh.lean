/-! the public methods that change a guest's tickets -/
set_option maxRecDepth 100000 in
theorem op_put {N : Nat} {C R : kb_M} (h : ki_V N C R) (u v i w : Int32) : kb_E (kb_en kz_BK_put [.inr (some 0), .inl u, .inl v, .inl i, .inl w] C) (fun q => q.1 = (kr_put R u v i w).1 ∧ ki_V N q.2 (kr_put R u v i w).2) := by
  refine kb_go 40 [] ?_
  by_cases hu : 2 ≤ u ∧ u ≤ 3
  · obtain ⟨g, hg, rfl⟩ := kr_gst hu
    obtain ⟨t1, t2⟩ := kv_tc h.1 hg
    refine kb_E_to (ck_guestOf C hg) ?_
    have W : kb_E (kb_en kz_Guest_putWord [.inr (some (9 + 5 * g)), .inl v, .inl i, .inl w] C) (fun q => (q.1 = some (.inl 0) ∨ q.1 = some (.inl 1)) ∧ q.1 = (kr_put R (nI (2 + g)) v i w).1 ∧ ki_V N q.2 (kr_put R (nI (2 + g)) v i w).2) := by
      unfold kr_put
      cases hl : kr_lt R (nI (2 + g)) v with
      | none => exact kb_E_to (cg_putWord_n (kg_in hg) (cg_isLiveOf_n (kg_in hg) t1 t2 (kv_dead h.1 hg hl) 0) i w) ⟨Or.inl rfl, rfl, h⟩
      | some j =>
        obtain ⟨t, b, r, w1, rfl, w3, w4, w5, w6, w7, w8, w9, w10, w11, w12, w13⟩ := kv_live h.1 hg hl
        match b, w8 with
        | 0, _ =>
          have G := cg_putWord_y (kg_in hg) t1 t2 w1 w6 w10 w12 w11 i w
          show kb_E _ (fun q => _ ∧ q.1 = (if R 41 j = 0 ∧ 0 ≤ i ∧ i ≤ 3 then (some (Sum.inl 1), kb_up R 44 (4 * j + i.toNatClampNeg) w) else (some (Sum.inl 0), R)).1 ∧ ki_V N q.2 (if R 41 j = 0 ∧ 0 ≤ i ∧ i ≤ 3 then (some (Sum.inl 1), kb_up R 44 (4 * j + i.toNatClampNeg) w) else (some (Sum.inl 0), R)).2)
          by_cases hi : 0 ≤ i ∧ i ≤ 3
          · rw [if_pos ⟨w9, hi⟩]
            rw [if_pos (kr_i4.mpr hi)] at G
            obtain ⟨k, hk, rfl⟩ := kr_in i (n := 3) (by decide) hi
            rw [nI_clamp (by omega)] at G ⊢
            refine kb_E_to G ⟨Or.inr rfl, rfl, ?_⟩
            have J : ki_J N (kb_ro C (5 + 3 * 0) (upd (C 5) (4 * r + k) w)) (kb_ro R 44 (upd (R 44) (4 * j + k) w)) := ki_wr h.1 hg w1 (by rw [← w3]; exact w5) (by decide) (by rw [← w3]; exact w9) w11 (by rw [show 11 + 5 * g = 9 + 5 * g + 2 by omega]; exact w12) (fun q hq => pk_un (by omega)) (fun q hq => pk_un (by omega)) (fun m hm => by
              rw [← w3]
              unfold upd
              by_cases hmk : m = k
              · rw [if_pos (by omega), if_pos (by omega)]
              · rw [if_neg (by omega), if_neg (by omega)]
                exact w13 m hm)
            exact kv_same h J (kt_same h.2.1 rfl rfl (fun q hq => ⟨hq, rfl⟩)) rfl rfl rfl rfl rfl rfl rfl rfl rfl
          · rw [if_neg (fun q => hi q.2)]
            rw [if_neg (fun q => hi (kr_i4.mp q))] at G
            exact kb_E_to G ⟨Or.inl rfl, rfl, h⟩
        | 1, _ =>
          have I := cg_isLiveOf_y (kg_in hg) t1 t2 w1 w6 0
          rw [if_neg (by rw [w10]; decide)] at I
          show kb_E _ (fun q => _ ∧ q.1 = (if R 41 j = 0 ∧ 0 ≤ i ∧ i ≤ 3 then (some (Sum.inl 1), kb_up R 44 (4 * j + i.toNatClampNeg) w) else (some (Sum.inl 0), R)).1 ∧ ki_V N q.2 (if R 41 j = 0 ∧ 0 ≤ i ∧ i ≤ 3 then (some (Sum.inl 1), kb_up R 44 (4 * j + i.toNatClampNeg) w) else (some (Sum.inl 0), R)).2)
          rw [if_neg (fun q => by rw [w9] at q; exact absurd q.1 (by decide))]
          exact kb_E_to (cg_putWord_n (kg_in hg) I i w) ⟨Or.inl rfl, rfl, h⟩
    have fin : ∀ (x : Option kb_v) (M : kb_M), (x = some (.inl 0) ∨ x = some (.inl 1)) ∧ x = (kr_put R (nI (2 + g)) v i w).1 ∧ ki_V N M (kr_put R (nI (2 + g)) v i w).2 → ∃ y, x = some (.inl y) ∧ (y = 0 ∨ y = 1) ∧ some (.inl y) = (kr_put R (nI (2 + g)) v i w).1 ∧ ki_V N M (kr_put R (nI (2 + g)) v i w).2 := by
      rintro x M ⟨h1 | h1, h2, h3⟩
      · exact ⟨0, h1, Or.inl rfl, by rw [← h2, h1], h3⟩
      · exact ⟨1, h1, Or.inr rfl, by rw [← h2, h1], h3⟩
    match g, hg with
    | 0, _ =>
      refine kb_E_then W (fun x M hq => ?_)
      obtain ⟨y, rfl, y1, y2, y3⟩ := fin x M hq
      rcases y1 with rfl | rfl
      · exact And.intro (fun _ => And.intro rfl ⟨y2, y3⟩) (fun h => absurd h (by decide))
      · exact And.intro (fun h => absurd h (by decide)) (fun _ => And.intro rfl ⟨y2, y3⟩)
    | 1, _ =>
      refine kb_E_then W (fun x M hq => ?_)
      obtain ⟨y, rfl, y1, y2, y3⟩ := fin x M hq
      rcases y1 with rfl | rfl
      · exact And.intro (fun _ => And.intro rfl ⟨y2, y3⟩) (fun h => absurd h (by decide))
      · exact And.intro (fun h => absurd h (by decide)) (fun _ => And.intro rfl ⟨y2, y3⟩)
  · refine kb_E_to (ck_guestOf_no C hu) ?_
    unfold kr_put
    rw [kr_lt_no hu]
    exact And.intro rfl ⟨rfl, h⟩
set_option maxRecDepth 100000 in
theorem op_release {N : Nat} {C R : kb_M} (h : ki_V N C R) (u v : Int32) : kb_E (kb_en kz_BK_release [.inr (some 0), .inl u, .inl v] C) (fun q => q.1 = (kr_rel R u v).1 ∧ ki_V N q.2 (kr_rel R u v).2) := by
  refine kb_go 40 [] ?_
  by_cases hu : 2 ≤ u ∧ u ≤ 3
  · obtain ⟨g, hg, rfl⟩ := kr_gst hu
    obtain ⟨t1, t2⟩ := kv_tc h.1 hg
    refine kb_E_to (ck_guestOf C hg) ?_
    have W : kb_E (kb_en kz_Guest_giveBack [.inr (some (9 + 5 * g)), .inl v] C) (fun q => ∃ y, (y = 0 ∨ y = 1) ∧ q.1 = some (.inl y) ∧ some (.inl y) = (kr_rel R (nI (2 + g)) v).1 ∧ ki_V N q.2 (kr_rel R (nI (2 + g)) v).2) := by
      unfold kr_rel
      cases hl : kr_lt R (nI (2 + g)) v with
      | none => exact kb_E_to (cg_giveBack_n (kg_in hg) t1 t2 (kv_dead h.1 hg hl)) ⟨0, Or.inl rfl, rfl, rfl, h⟩
      | some j =>
        obtain ⟨t, b, r, w1, rfl, w3, w4, w5, w6, w7, w8, w9, w10, w11, w12, w13⟩ := kv_live h.1 hg hl
        refine kb_E_to (cg_giveBack_y (kg_in hg) t1 t2 w1 w6 w8 w10 w12 w11) ⟨1, Or.inr rfl, rfl, rfl, ?_⟩
        have J := ki_end h.1 (s := 0) hg w1 (by rw [← w3]; exact w5) w8 (by rw [← w3]; exact w9) w11 (by rw [show 11 + 5 * g = 9 + 5 * g + 2 by omega]; exact w12) (by decide)
        rw [← w3, show 12 + 5 * g = 9 + 5 * g + 3 by omega] at J
        have ne : ∀ k, k ≠ 9 + 5 * g + 3 → k ≠ 4 + 3 * b → (kb_up (kb_up C (9 + 5 * g + 3) t 0) (4 + 3 * b) r (-1)) k = C k := fun k h1 h2 => by rw [kb_up_ne _ _ _ h2, kb_up_ne _ _ _ h1]
        show ki_V N (kb_up (kb_up C (9 + 5 * g + 3) t 0) (4 + 3 * b) r (-1)) (kb_up R 42 j 0)
        refine kv_same h J (kt_same h.2.1 ?_ ?_ (fun q hq => ?_)) ?_ ?_ ?_ ?_ ?_ ?_ ?_ ?_ ?_
        · rw [kb_up_ne _ _ _ (by decide)]
        · rw [kb_up_ne _ _ _ (by decide)]
        · rw [kb_up_at] at hq
          rw [kb_up_ne _ _ _ (by decide)]
          by_cases hqj : q = j
          · subst hqj
            rw [pk_us] at hq
            exact absurd hq (by decide)
          · rw [pk_un hqj] at hq
            exact ⟨hq, rfl⟩
        · rw [ne 1 (by omega) (by omega)]
        · rw [ne 3 (by omega) (by omega)]
        · rw [ne 6 (by omega) (by omega)]
        · rw [ne 9 (by omega) (by omega)]
        · rw [ne 14 (by omega) (by omega)]
        · rw [ne 19 (by omega) (by omega)]
        · rw [ne 26 (by omega) (by omega)]
        · exact kb_up_ne _ _ _ (by decide)
        · exact kb_up_ne _ _ _ (by decide)
    match g, hg with
    | 0, _ =>
      refine kb_E_then W (fun x M hq => ?_)
      obtain ⟨y, y1, rfl, y2, y3⟩ := hq
      rcases y1 with rfl | rfl
      · exact And.intro (fun _ => And.intro rfl ⟨y2, y3⟩) (fun h => absurd h (by decide))
      · exact And.intro (fun h => absurd h (by decide)) (fun _ => And.intro rfl ⟨y2, y3⟩)
    | 1, _ =>
      refine kb_E_then W (fun x M hq => ?_)
      obtain ⟨y, y1, rfl, y2, y3⟩ := hq
      rcases y1 with rfl | rfl
      · exact And.intro (fun _ => And.intro rfl ⟨y2, y3⟩) (fun h => absurd h (by decide))
      · exact And.intro (fun h => absurd h (by decide)) (fun _ => And.intro rfl ⟨y2, y3⟩)
  · refine kb_E_to (ck_guestOf_no C hu) ?_
    unfold kr_rel
    rw [kr_lt_no hu]
    exact And.intro rfl ⟨rfl, h⟩
theorem kt_mk {N : Nat} {R : kb_M} (h : ki_T N R) {j : Nat} : ki_T N (kr_mk R j) := by
  obtain ⟨n, h1, h2, h3⟩ := h
  have e33 : (kr_mk R j) 33 = R 33 := by unfold kr_mk; rw [kb_up_ne _ _ _ (by decide), kb_up_ne _ _ _ (by decide)]
  have e39 : (kr_mk R j) 39 = R 39 := by unfold kr_mk; rw [kb_up_ne _ _ _ (by decide), kb_up_ne _ _ _ (by decide)]
  have e42 : (kr_mk R j) 42 = upd (R 42) j 3 := by unfold kr_mk; rw [kb_up_ne _ _ _ (by decide), kb_up_at]
  have e43 : (kr_mk R j) 43 = upd (R 43) j (R 33 0 + 5) := by unfold kr_mk; rw [kb_up_at, kb_up_ne _ _ _ (by decide)]
  refine ⟨n, by rw [e33]; exact h1, h2, fun g t hg ht hs => ?_⟩
  unfold kr_bd at ht
  rw [e39] at ht
  rw [e42] at hs
  rw [e43]
  by_cases hj : 60 * g + t = j
  · rw [hj, pk_us]
    exact ⟨n + 5, by rw [h1, show (5 : Int32) = nI 5 from rfl, nI_add], by omega, by omega⟩
  · rw [pk_un hj] at hs ⊢
    exact h3 g t hg ht hs
theorem kv_mk {N : Nat} {C R : kb_M} (h : ki_V N C R) {g t : Nat} (hg : g < 2) (ht : t < kr_bd R g) (hl : R 42 (60 * g + t) = 2) : ki_V N (kb_up (kb_up C (12 + 5 * g) t 3) (13 + 5 * g) t (R 33 0 + 5)) (kr_mk R (60 * g + t)) := by
  have J := ki_ask h.1 hg ht hl (R 33 0 + 5)
  have ne : ∀ k, k ≠ 12 + 5 * g → k ≠ 13 + 5 * g → (kb_up (kb_up C (12 + 5 * g) t 3) (13 + 5 * g) t (R 33 0 + 5)) k = C k := fun k h1 h2 => by rw [kb_up_ne _ _ _ h2, kb_up_ne _ _ _ h1]
  refine kv_same h J (kt_mk h.2.1) ?_ ?_ ?_ ?_ ?_ ?_ ?_ ?_ ?_
  · rw [ne 1 (by omega) (by omega)]
  · rw [ne 3 (by omega) (by omega)]
  · rw [ne 6 (by omega) (by omega)]
  · rw [ne 9 (by omega) (by omega)]
  · rw [ne 14 (by omega) (by omega)]
  · rw [ne 19 (by omega) (by omega)]
  · rw [ne 26 (by omega) (by omega)]
  · unfold kr_mk; rw [kb_up_ne _ _ _ (by decide), kb_up_ne _ _ _ (by decide)]
  · unfold kr_mk; rw [kb_up_ne _ _ _ (by decide), kb_up_ne _ _ _ (by decide)]
set_option maxRecDepth 100000 in
theorem op_ask {N : Nat} {C R : kb_M} (h : ki_V N C R) (u v : Int32) : kb_E (kb_en kz_BK_ask [.inr (some 0), .inl u, .inl v] C) (fun q => q.1 = (kr_ask R u v).1 ∧ ki_V N q.2 (kr_ask R u v).2) := by
  refine kb_go 60 [] ?_
  by_cases hu : 2 ≤ u ∧ u ≤ 3
  · obtain ⟨g, hg, rfl⟩ := kr_gst hu
    obtain ⟨t1, t2⟩ := kv_tc h.1 hg
    refine kb_E_to (ck_guestOf C hg) ?_
    have W : ∀ d, d = R 33 0 + 5 → kb_E (kb_en kz_Guest_askFor [.inr (some (9 + 5 * g)), .inl v, .inl d] C) (fun q => ∃ y, (y = 0 ∨ y = 1) ∧ q.1 = some (.inl y) ∧ some (.inl y) = (kr_ask R (nI (2 + g)) v).1 ∧ ki_V N q.2 (kr_ask R (nI (2 + g)) v).2) := by
      intro d hd
      subst hd
      refine kb_E_imp (cg_askFor (kg_in hg) t1 t2 v (R 33 0 + 5)) (fun q hq => ?_)
      unfold kr_ask
      rcases hq with ⟨t, ht, rfl, hs, rfl⟩ | ⟨hno, rfl⟩
      · rw [show 9 + 5 * g + 3 = 12 + 5 * g by omega, ((h.1.2.2.2.2.1 g hg).2.1 t ht).2.1] at hs
        rw [kr_lt_at h.1.1 hg ht, if_pos (by rw [hs]; decide)]
        refine ⟨1, Or.inr rfl, rfl, ?_, ?_⟩
        · show _ = (if R 42 (60 * g + t) = 3 then _ else _ : kb_R).1
          rw [if_neg (by rw [hs]; decide)]
        · show ki_V N _ (if R 42 (60 * g + t) = 3 then _ else _ : kb_R).2
          rw [if_neg (by rw [hs]; decide)]
          have := kv_mk h hg ht hs
          rw [show 12 + 5 * g = 9 + 5 * g + 3 by omega, show 13 + 5 * g = 9 + 5 * g + 4 by omega] at this
          exact this
      · cases hl : kr_lt R (nI (2 + g)) v with
        | none => exact ⟨0, Or.inl rfl, rfl, rfl, h⟩
        | some j =>
          obtain ⟨t, b, r, w1, rfl, w3, w4, w5, w6, w7, w8, w9, w10, w11, w12, w13⟩ := kv_live h.1 hg hl
          have h3 : R 42 j = 3 := by
            rw [← w7]
            rcases w6 with w6 | w6
            · exact absurd w6 (hno t w1 rfl)
            · exact w6
          refine ⟨0, Or.inl rfl, rfl, ?_, ?_⟩
          · show _ = (if R 42 j = 3 then _ else _ : kb_R).1
            rw [if_pos h3]
          · show ki_V N _ (if R 42 j = 3 then _ else _ : kb_R).2
            rw [if_pos h3]
            exact h
    have hx : C 1 0 + Int32.ofInt 5 = R 33 0 + 5 := by rw [h.2.2.1.1]; rfl
    match g, hg with
    | 0, _ =>
      refine kb_E_then (W _ hx) (fun x M hq => ?_)
      obtain ⟨y, y1, rfl, y2, y3⟩ := hq
      rcases y1 with rfl | rfl
      · exact And.intro (fun _ => And.intro rfl ⟨y2, y3⟩) (fun h => absurd h (by decide))
      · exact And.intro (fun h => absurd h (by decide)) (fun _ => And.intro rfl ⟨y2, y3⟩)
    | 1, _ =>
      refine kb_E_then (W _ hx) (fun x M hq => ?_)
      obtain ⟨y, y1, rfl, y2, y3⟩ := hq
      rcases y1 with rfl | rfl
      · exact And.intro (fun _ => And.intro rfl ⟨y2, y3⟩) (fun h => absurd h (by decide))
      · exact And.intro (fun h => absurd h (by decide)) (fun _ => And.intro rfl ⟨y2, y3⟩)
  · refine kb_E_to (ck_guestOf_no C hu) ?_
    unfold kr_ask
    rw [kr_lt_no hu]
    exact And.intro rfl ⟨rfl, h⟩
