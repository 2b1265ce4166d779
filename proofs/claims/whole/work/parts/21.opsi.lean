/-! copy, bind, pass -/
/-- with the time's bound B apart from N -/
def ki_U (B : Nat) (R : kb_M) : Prop := ∃ n, R 33 0 = nI n ∧ n ≤ B ∧ ∀ g t, g < 2 → t < kr_bd R g → R 42 (60 * g + t) = 3 → ∃ d, R 43 (60 * g + t) = nI d ∧ n < d ∧ d ≤ n + 5
def ki_Z (N B : Nat) (C R : kb_M) : Prop := ki_J N C R ∧ ki_U B R ∧ ki_K C R ∧ ki_L C R ∧ ki_X C R
theorem kz_V {N : Nat} {C R : kb_M} : ki_V N C R ↔ ki_Z N (55 * N) C R := Iff.rfl
theorem kr_cpy_at {R : kb_M} {j k : Nat} (hjk : j ≠ k) (q : Nat) : (kr_cpy R j k) 44 q = if q / 4 = k then R 44 (4 * j + q % 4) else R 44 q := by
  have c1 : ∀ (S : kb_M) (m q : Nat), (kr_c1 S j k m) 44 q = if q = 4 * k + m then S 44 (4 * j + m) else S 44 q := fun S m q => by unfold kr_c1; rw [kb_up_at]; rfl
  unfold kr_cpy
  simp only [c1]
  by_cases h : q / 4 = k
  · rw [if_pos h]
    have hm : q % 4 = 0 ∨ q % 4 = 1 ∨ q % 4 = 2 ∨ q % 4 = 3 := by omega
    rcases hm with hm | hm | hm | hm
    · rw [hm, if_neg (by omega), if_neg (by omega), if_neg (by omega), if_pos (by omega)]
    · rw [hm, if_neg (by omega), if_neg (by omega), if_pos (by omega), if_neg (by omega)]
    · rw [hm, if_neg (by omega), if_pos (by omega), if_neg (by omega), if_neg (by omega)]
    · rw [hm, if_pos (by omega), if_neg (by omega), if_neg (by omega), if_neg (by omega)]
  · rw [if_neg h, if_neg (by omega), if_neg (by omega), if_neg (by omega), if_neg (by omega)]
theorem kr_cpy_ro {R : kb_M} {j k : Nat} : kr_cpy R j k = kb_ro R 44 ((kr_cpy R j k) 44) := by
  funext a q
  by_cases h : a = 44
  · subst h; rw [kb_ro_at]
  · rw [kb_ro_ne _ _ h]
    unfold kr_cpy kr_c1
    rw [kb_up_ne _ _ _ h, kb_up_ne _ _ _ h, kb_up_ne _ _ _ h, kb_up_ne _ _ _ h]
def kv_lob (R : kb_M) (g : Nat) (v : Int32) (x : Nat) : Bool := match kr_lt R (nI (2 + g)) v with
  | none => false
  | some j => decide (R 41 j = nI x)
theorem kv_lo {N : Nat} {C R : kb_M} (h : ki_J N C R) {g : Nat} (hg : g < 2) (v : Int32) (x : Nat) : kb_E (kb_en kz_Guest_isLiveOf [.inr (some (9 + 5 * g)), .inl v, .inl (nI x)] C) (fun q => q = (some (.inl (if kv_lob R g v x then 1 else 0)), C)) := by
  obtain ⟨t1, t2⟩ := kv_tc h hg
  unfold kv_lob
  cases hl : kr_lt R (nI (2 + g)) v with
  | none => exact cg_isLiveOf_n (kg_in hg) t1 t2 (kv_dead h hg hl) (nI x)
  | some j =>
    obtain ⟨t, b, r, w1, rfl, w3, w4, w5, w6, w7, w8, w9, w10, w11, w12, w13⟩ := kv_live h hg hl
    have I := cg_isLiveOf_y (kg_in hg) t1 t2 w1 w6 (nI x)
    rw [w10, ← w9] at I
    show kb_E _ (fun q => q = (some (Sum.inl (if decide (R 41 j = nI x) = true then 1 else 0)), C))
    by_cases hx : R 41 j = nI x
    · rw [if_pos hx] at I
      rw [if_pos (decide_eq_true hx)]
      exact I
    · rw [if_neg hx] at I
      rw [if_neg (by rw [decide_eq_false hx]; decide)]
      exact I
/-- the four words of ticket j go to ticket k -/
theorem kv_cp {N : Nat} {C R : kb_M} (h : ki_V N C R) {g t b r j k bj rj : Nat} (hg : g < 2) (ht : t < kr_bd R g) (hk : k = 60 * g + t) (hl : 2 ≤ R 42 k) (hb : b < 2) (hkd : R 41 k = nI b) (hr : r < 12 + 12 * b) (hres : C (9 + 5 * g + 2) t = nI r) (hbj : bj < 2) (hne : b ≠ bj) (hjk : j ≠ k) (hw : ∀ m, m < 4 → C (5 + 3 * bj) (4 * rj + m) = R 44 (4 * j + m)) : ki_V N (kp_cp C (5 + 3 * bj) (5 + 3 * b) rj r) (kr_cpy R j k) := by
  have J : ki_J N (kb_ro C (5 + 3 * b) (va_cpy (C (5 + 3 * bj)) (C (5 + 3 * b)) (4 * rj) (4 * r) 4)) (kb_ro R 44 ((kr_cpy R j k) 44)) := by
    refine ki_wr h.1 hg ht (by rw [← hk]; exact hl) hb (by rw [← hk]; exact hkd) hr (by rw [show 11 + 5 * g = 9 + 5 * g + 2 by omega]; exact hres) (fun q hq => pk_cpy_out (by omega)) (fun q hq => ?_) (fun m hm => ?_)
    · rw [kr_cpy_at hjk, if_neg (by omega)]
    · rw [kr_cpy_at hjk, if_pos (by omega), pk_cpy_in (by omega) (by omega), show 4 * rj + (4 * r + m - 4 * r) = 4 * rj + m by omega, hw m hm]
      congr 1
      omega
  rw [← kr_cpy_ro] at J
  have ne : ∀ q, q ≠ 5 + 3 * b → (kp_cp C (5 + 3 * bj) (5 + 3 * b) rj r) q = C q := fun q hq => by unfold kp_cp; rw [kb_ro_ne _ _ hq]
  have nR : ∀ q, q ≠ 44 → (kr_cpy R j k) q = R q := fun q hq => by rw [kr_cpy_ro, kb_ro_ne _ _ hq]
  refine kv_same h J (kt_same h.2.1 (by rw [nR 33 (by decide)]) (nR 39 (by decide)) (fun q hq => by rw [nR 42 (by decide)] at hq; rw [nR 43 (by decide)]; exact ⟨hq, rfl⟩)) ?_ ?_ ?_ ?_ ?_ ?_ ?_ (nR 33 (by decide)) (nR 40 (by decide))
  · rw [ne 1 (by omega)]
  · rw [ne 3 (by omega)]
  · rw [ne 6 (by omega)]
  · rw [ne 9 (by omega)]
  · rw [ne 14 (by omega)]
  · rw [ne 19 (by omega)]
  · rw [ne 26 (by omega)]
set_option maxRecDepth 100000 in
theorem op_copy {N : Nat} {C R : kb_M} (h : ki_V N C R) (u v w : Int32) : kb_E (kb_en kz_BK_copy [.inr (some 0), .inl u, .inl v, .inl w] C) (fun q => q.1 = (kr_copy R u v w).1 ∧ ki_V N q.2 (kr_copy R u v w).2) := by
  refine kb_go 40 [] ?_
  by_cases hu : 2 ≤ u ∧ u ≤ 3
  · obtain ⟨g, hg, rfl⟩ := kr_gst hu
    refine kb_E_to (ck_guestOf C hg) ?_
    have W : kb_E (kb_en kz_Guest_copyWords [.inr (some (9 + 5 * g)), .inl v, .inl w] C) (fun q => ∃ y, (y = 0 ∨ y = 1) ∧ q.1 = some (.inl y) ∧ some (.inl y) = (kr_copy R (nI (2 + g)) v w).1 ∧ ki_V N q.2 (kr_copy R (nI (2 + g)) v w).2) := by
      have v0 := kv_lo h.1 hg v 0
      have v1 := kv_lo h.1 hg v 1
      have w0 := kv_lo h.1 hg w 0
      have w1 := kv_lo h.1 hg w 1
      have none_ : (¬ (kv_lob R g v 0 = true ∧ kv_lob R g w 1 = true) ∧ ¬ (kv_lob R g v 1 = true ∧ kv_lob R g w 0 = true)) → kr_copy R (nI (2 + g)) v w = (some (.inl 0), R) → kb_E (kb_en kz_Guest_copyWords [.inr (some (9 + 5 * g)), .inl v, .inl w] C) (fun q => ∃ y, (y = 0 ∨ y = 1) ∧ q.1 = some (.inl y) ∧ some (.inl y) = (kr_copy R (nI (2 + g)) v w).1 ∧ ki_V N q.2 (kr_copy R (nI (2 + g)) v w).2) := by
        intro hn e
        rw [e]
        exact kb_E_to (cg_copy_n (kg_in hg) v0 w1 v1 w0 hn) ⟨0, Or.inl rfl, rfl, rfl, h⟩
      cases hl : kr_lt R (nI (2 + g)) v with
      | none =>
        refine none_ ⟨fun q => ?_, fun q => ?_⟩ (by unfold kr_copy; rw [hl])
        · unfold kv_lob at q; rw [hl] at q; exact absurd (show false = true from q.1) (by decide)
        · unfold kv_lob at q; rw [hl] at q; exact absurd (show false = true from q.1) (by decide)
      | some j =>
        cases hl2 : kr_lt R (nI (2 + g)) w with
        | none =>
          refine none_ ⟨fun q => ?_, fun q => ?_⟩ (by unfold kr_copy; rw [hl, hl2])
          · unfold kv_lob at q; rw [hl2] at q; exact absurd (show false = true from q.2) (by decide)
          · unfold kv_lob at q; rw [hl2] at q; exact absurd (show false = true from q.2) (by decide)
        | some k =>
          have lov : ∀ x, kv_lob R g v x = decide (R 41 j = nI x) := fun x => by unfold kv_lob; rw [hl]
          have low : ∀ x, kv_lob R g w x = decide (R 41 k = nI x) := fun x => by unfold kv_lob; rw [hl2]
          have ec : kr_copy R (nI (2 + g)) v w = if R 41 j = R 41 k then (some (.inl 0), R) else (some (.inl 1), kr_cpy R j k) := by unfold kr_copy; rw [hl, hl2]
          obtain ⟨t, b, r, a1, rfl, a3, a4, a5, a6, a7, a8, a9, a10, a11, a12, a13⟩ := kv_live h.1 hg hl
          obtain ⟨s, c, z, b1, rfl, b3, b4, b5, b6, b7, b8, b9, b10, b11, b12, b13⟩ := kv_live h.1 hg hl2
          have hle := (kv_tc h.1 hg).2
          by_cases hbc : b = c
          · refine none_ ⟨fun q => ?_, fun q => ?_⟩ (by rw [ec, if_pos (by rw [a9, b9, hbc])])
            · rw [lov, low] at q
              have q1 := of_decide_eq_true q.1
              have q2 := of_decide_eq_true q.2
              rw [a9] at q1
              rw [b9, ← hbc, q1] at q2
              exact absurd q2 (by decide)
            · rw [lov, low] at q
              have q1 := of_decide_eq_true q.1
              have q2 := of_decide_eq_true q.2
              rw [a9] at q1
              rw [b9, ← hbc, q1] at q2
              exact absurd q2 (by decide)
          · have hne : ¬ R 41 j = R 41 k := by rw [a9, b9]; exact nI_ne (by omega) (by omega) hbc
            have hjk : j ≠ k := fun q => hne (by rw [q])
            rw [ec, if_neg hne]
            have cp := kv_cp h hg b1 b3 b5 b8 b9 b11 b12 a8 (fun q => hbc q.symm) hjk a13
            have cases2 : (b = 0 ∧ c = 1) ∨ (b = 1 ∧ c = 0) := by omega
            rcases cases2 with ⟨rfl, rfl⟩ | ⟨rfl, rfl⟩
            · rw [lov, decide_eq_true a9] at v0
              rw [low, decide_eq_true b9] at w1
              exact kb_E_to (cg_copy_fb (kg_in hg) (by omega) (by omega) v0 w1 a12 b12 (by omega) (by omega)) ⟨1, Or.inr rfl, rfl, rfl, cp⟩
            · rw [lov, decide_eq_false (by rw [a9]; decide)] at v0
              rw [lov, decide_eq_true a9] at v1
              rw [low, decide_eq_true b9] at w0
              exact kb_E_to (cg_copy_bf (kg_in hg) (by omega) (by omega) v0 v1 w0 a12 b12 (by omega) (by omega)) ⟨1, Or.inr rfl, rfl, rfl, cp⟩
    match g, hg with
    | 0, _ =>
      refine kb_E_then W (fun x M hq => ?_)
      obtain ⟨y, y1, rfl, y2, y3⟩ := hq
      rcases y1 with rfl | rfl
      · exact And.intro (fun _ => And.intro rfl ⟨y2, y3⟩) (fun h => absurd h (by decide))
      · exact And.intro (fun h => absurd h (by decide)) (fun _ => And.intro rfl ⟨y2, y3⟩)
    | 1, _ =>
      refine kb_E_then W (fun x M hq => ?_)
      obtain ⟨y, y1, rfl, y2, y3⟩ := hq
      rcases y1 with rfl | rfl
      · exact And.intro (fun _ => And.intro rfl ⟨y2, y3⟩) (fun h => absurd h (by decide))
      · exact And.intro (fun h => absurd h (by decide)) (fun _ => And.intro rfl ⟨y2, y3⟩)
  · refine kb_E_to (ck_guestOf_no C hu) ?_
    unfold kr_copy
    rw [kr_lt_no hu]
    exact And.intro rfl ⟨rfl, h⟩
/-- a wish keeps all -/
theorem ku_mk {B : Nat} {R : kb_M} (h : ki_U B R) {j : Nat} : ki_U B (kr_mk R j) := by
  obtain ⟨n, h1, h2, h3⟩ := h
  have e33 : (kr_mk R j) 33 = R 33 := by unfold kr_mk; rw [kb_up_ne _ _ _ (by decide), kb_up_ne _ _ _ (by decide)]
  have e39 : (kr_mk R j) 39 = R 39 := by unfold kr_mk; rw [kb_up_ne _ _ _ (by decide), kb_up_ne _ _ _ (by decide)]
  have e42 : (kr_mk R j) 42 = upd (R 42) j 3 := by unfold kr_mk; rw [kb_up_ne _ _ _ (by decide), kb_up_at]
  have e43 : (kr_mk R j) 43 = upd (R 43) j (R 33 0 + 5) := by unfold kr_mk; rw [kb_up_at, kb_up_ne _ _ _ (by decide)]
  refine ⟨n, by rw [e33]; exact h1, h2, fun g t hg ht hs => ?_⟩
  unfold kr_bd at ht
  rw [e39] at ht
  rw [e42] at hs
  rw [e43]
  by_cases hj : 60 * g + t = j
  · rw [hj, pk_us]
    exact ⟨n + 5, by rw [h1, show (5 : Int32) = nI 5 from rfl, nI_add], by omega, by omega⟩
  · rw [pk_un hj] at hs ⊢
    exact h3 g t hg ht hs
theorem ku_wi {B : Nat} {R : kb_M} (h : ki_U B R) (b : Int32) : ki_U B (kr_wi R b) := by
  unfold kr_wi
  split
  next =>
    cases kr_la R (kr_ri R b) b (kr_bd R (kr_ri R b)) with
    | none => exact h
    | some t => exact ku_mk h
  next => exact h
theorem kz_wi {N B : Nat} {C D R : kb_M} {b : Int32} (h : ki_Z N B C R) (J : ki_J N D (kr_wi R b)) (hw : kx_wi C D) : ki_Z N B D (kr_wi R b) := by
  obtain ⟨-, hU, ⟨k1, k2, k3, k4, k5⟩, hL, ⟨x1, x2⟩⟩ := h
  have e33 : (kr_wi R b) 33 = R 33 := kr_wi_ne R b (by decide) (by decide)
  have e40 : (kr_wi R b) 40 = R 40 := kr_wi_ne R b (by decide) (by decide)
  refine ⟨J, ku_wi hU b, ?_, ?_, ?_⟩
  · unfold ki_K
    rw [hw 1 (by decide) (by decide) (by decide) (by decide), hw 3 (by decide) (by decide) (by decide) (by decide), hw 6 (by decide) (by decide) (by decide) (by decide), hw 19 (by decide) (by decide) (by decide) (by decide), hw 26 (by decide) (by decide) (by decide) (by decide), e33]
    exact ⟨k1, k2, k3, k4, k5⟩
  · intro g hg
    rw [hw (9 + 5 * g) (by omega) (by omega) (by omega) (by omega), e40]
    exact hL g hg
  · unfold ki_X
    rw [hw 19 (by decide) (by decide) (by decide) (by decide), hw 26 (by decide) (by decide) (by decide) (by decide), e33]
    exact ⟨x1, x2⟩
set_option maxRecDepth 100000 in
theorem op_bindG {N : Nat} {C R : kb_M} (h : ki_V N C R) (hN : N ≤ 600) {g b : Nat} (hg : g < 2) (hb : b < 2) : kb_E (kb_en kz_Kernel_bindForGuest [.inr (some 1), .inl (nI (2 + g)), .inl (nI b)] C) (fun q => q.1 = (kr_bind R g b).1 ∧ ki_V N q.2 (kr_bind R g b).2) := by
  obtain ⟨t1, t2⟩ := kv_tc h.1 hg
  have A := cg_hasAll (kg_in hg) t1 t2
  have CL := ck_claim h.1 h.2.2.1 (kt_dl h.2.1 hN) hb (e := 2 + g) (by omega)
  have hbb : nI b = 0 ∨ nI b = 1 := by
    match b, hb with
    | 0, _ => exact Or.inl rfl
    | 1, _ => exact Or.inr rfl
  -- what the claim gives, then the ticket
  have fin : kr_bd R g ≠ 60 → ∀ c, c = 9 + 5 * g → kb_E (kz_Kernel_bindForGuest, 19, [some (.inr (some 1)), some (.inl (nI (2 + g))), some (.inl (nI b)), some (.inr (some c)), none], [], C) (fun q => q.1 = (kr_bind R g b).1 ∧ ki_V N q.2 (kr_bind R g b).2) := by
    intro h60 c hc
    refine kb_go 40 [] ?_
    refine kb_E_then CL (fun v M hq => ?_)
    unfold kr_bind
    rw [if_neg h60]
    rcases hq with ⟨r, r1, r2, e⟩ | ⟨f1, f2, e⟩ | ⟨f1, f2, q1, q2, q3⟩
    · cases e
      rw [if_neg (kx_some h.1 hb r1 r2)]
      refine And.intro (fun h => absurd (of_decide_eq_true h) (nI_pos (by omega))) (fun _ => ?_)
      have tn : (kx_bn C b r (nI (2 + g))) (9 + 5 * g) 7 = nI (kr_bd R g) := by
        unfold kx_bn
        rw [kb_ro_ne _ _ (by omega), kb_up_ne _ _ _ (by omega)]
        exact t1
      have T := cg_addTicket (kg_in hg) tn (by omega) hbb (nI r)
      have J := ki_bind h.1 hg hb (by omega) r1 r2
      rw [show 9 + 5 * g + 1 = 10 + 5 * g by omega, show 9 + 5 * g + 2 = 11 + 5 * g by omega, show 9 + 5 * g + 3 = 12 + 5 * g by omega] at T
      have hV : ki_V N (kb_up (kb_up (kb_up (kb_up (kx_bn C b r (nI (2 + g))) (10 + 5 * g) (kr_bd R g) (nI b)) (11 + 5 * g) (kr_bd R g) (nI r)) (12 + 5 * g) (kr_bd R g) 2) (9 + 5 * g) 7 (nI (kr_bd R g + 1))) (kr_bi R g (nI b)) := by
        have eR : ∀ k, k ≠ 39 → k ≠ 41 → k ≠ 42 → k ≠ 44 → (kr_bi R g (nI b)) k = R k := fun k h1 h2 h3 h4 => by unfold kr_bi; rw [kb_up_ne _ _ _ h1, kb_ro_ne _ _ h4, kb_up_ne _ _ _ h3, kb_up_ne _ _ _ h2]
        have s39 : (kr_bi R g (nI b)) 39 = upd (R 39) g (nI (kr_bd R g + 1)) := by unfold kr_bi; rw [kb_up_at, kb_ro_ne _ _ (by decide), kb_up_ne _ _ _ (by decide), kb_up_ne _ _ _ (by decide)]
        have s42 : (kr_bi R g (nI b)) 42 = upd (R 42) (60 * g + kr_bd R g) 2 := by unfold kr_bi; rw [kb_up_ne _ _ _ (by decide), kb_ro_ne _ _ (by decide), kb_up_at, kb_up_ne _ _ _ (by decide)]
        have T' : ki_T N (kr_bi R g (nI b)) := by
          obtain ⟨n, n1, n2, n3⟩ := h.2.1
          refine ⟨n, by rw [eR 33 (by decide) (by decide) (by decide) (by decide)]; exact n1, n2, fun d u hd hu hs => ?_⟩
          rw [s42] at hs
          rw [eR 43 (by decide) (by decide) (by decide) (by decide)]
          by_cases hud : 60 * d + u = 60 * g + kr_bd R g
          · rw [hud, pk_us] at hs
            exact absurd hs (by decide)
          · rw [pk_un hud] at hs
            refine n3 d u hd ?_ hs
            unfold kr_bd at hu
            rw [s39] at hu
            unfold upd at hu
            by_cases hdg : d = g
            · subst hdg
              rw [if_pos rfl, nI_clamp (by omega)] at hu
              have : u ≠ kr_bd R d := fun q => hud (by rw [q])
              omega
            · rw [if_neg hdg] at hu
              exact hu
        have ne : ∀ k, k ≠ 4 + 3 * b → k ≠ 5 + 3 * b → k ≠ 9 + 5 * g → k ≠ 10 + 5 * g → k ≠ 11 + 5 * g → k ≠ 12 + 5 * g → (kb_up (kb_up (kb_up (kb_up (kx_bn C b r (nI (2 + g))) (10 + 5 * g) (kr_bd R g) (nI b)) (11 + 5 * g) (kr_bd R g) (nI r)) (12 + 5 * g) (kr_bd R g) 2) (9 + 5 * g) 7 (nI (kr_bd R g + 1))) k = C k := fun k h1 h2 h3 h4 h5 h6 => by unfold kx_bn; rw [kb_up_ne _ _ _ h3, kb_up_ne _ _ _ h6, kb_up_ne _ _ _ h5, kb_up_ne _ _ _ h4, kb_ro_ne _ _ h2, kb_up_ne _ _ _ h1]
        have n9 : ∀ d, d < 2 → (kb_up (kb_up (kb_up (kb_up (kx_bn C b r (nI (2 + g))) (10 + 5 * g) (kr_bd R g) (nI b)) (11 + 5 * g) (kr_bd R g) (nI r)) (12 + 5 * g) (kr_bd R g) 2) (9 + 5 * g) 7 (nI (kr_bd R g + 1))) (9 + 5 * d) 0 = C (9 + 5 * d) 0 := by
          intro d hd
          by_cases hdg : d = g
          · subst hdg
            rw [kb_up_at, pk_un (by decide)]
            unfold kx_bn
            rw [kb_up_ne _ _ _ (by omega), kb_up_ne _ _ _ (by omega), kb_up_ne _ _ _ (by omega), kb_ro_ne _ _ (by omega), kb_up_ne _ _ _ (by omega)]
          · rw [ne _ (by omega) (by omega) (by omega) (by omega) (by omega) (by omega)]
        exact kv_same h J T' (by rw [ne 1 (by omega) (by omega) (by omega) (by omega) (by omega) (by omega)]) (ne 3 (by omega) (by omega) (by omega) (by omega) (by omega) (by omega)) (ne 6 (by omega) (by omega) (by omega) (by omega) (by omega) (by omega)) (n9 0 (by decide)) (n9 1 (by decide)) (ne 19 (by omega) (by omega) (by omega) (by omega) (by omega) (by omega)) (ne 26 (by omega) (by omega) (by omega) (by omega) (by omega) (by omega)) (eR 33 (by decide) (by decide) (by decide) (by decide)) (eR 40 (by decide) (by decide) (by decide) (by decide))
      subst hc
      match g, hg with
      | 0, _ => exact kb_E_to T (And.intro rfl ⟨rfl, hV⟩)
      | 1, _ => exact kb_E_to T (And.intro rfl ⟨rfl, hV⟩)
    · cases e
      rw [kr_c_g hg] at f2
      rw [if_pos f1, if_pos f2]
      refine And.intro (fun _ => And.intro rfl ⟨rfl, h⟩) (fun h => absurd h (by decide))
    · dsimp only at q1 q2 q3
      subst q1
      rw [kr_c_g hg] at f2
      rw [if_pos f1, if_neg (by omega)]
      refine And.intro (fun _ => And.intro rfl ⟨rfl, kz_wi h q2 q3⟩) (fun h => absurd h (by decide))
  refine kb_go 40 [19] ?_
  refine kb_E_to (ck_guestOf C hg) ?_
  by_cases h60 : kr_bd R g = 60
  · rw [if_pos h60] at A
    have e : kr_bind R g b = (some (.inl (-1)), R) := by unfold kr_bind; rw [if_pos h60]
    rw [e]
    match g, hg with
    | 0, _ =>
      refine kb_E_to A ?_
      exact And.intro (fun h => absurd h (by decide)) (fun _ => And.intro rfl ⟨rfl, h⟩)
    | 1, _ =>
      refine kb_E_to A ?_
      exact And.intro (fun h => absurd h (by decide)) (fun _ => And.intro rfl ⟨rfl, h⟩)
  · rw [if_neg h60] at A
    have F := fin h60 _ rfl
    match g, hg with
    | 0, _ =>
      refine kb_E_to A ?_
      exact And.intro (fun _ => F) (fun h => absurd h (by decide))
    | 1, _ =>
      refine kb_E_to A ?_
      exact And.intro (fun _ => F) (fun h => absurd h (by decide))
