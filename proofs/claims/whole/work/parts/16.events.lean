/-! what happens to both sides at once keeps what ties them -/
def ki_J (N : Nat) (C R : kb_M) : Prop := kr_ok R ∧ (∀ j, j < 120 → ∃ s, s < 4 ∧ R 42 j = nI s) ∧ ki_H C ∧ ki_N C R ∧ (∀ g, g < 2 → ki_G C R g) ∧ (∀ a, a < 2 → ki_A N C R a)
theorem kr_c_app {R S : kb_M} (h35 : S 35 = R 35) (h38 : S 38 = R 38) {e : Nat} (he : e < 2) (b : Nat) : kr_c S e b = kr_c R e b := by
  unfold kr_c
  rw [if_pos he, if_pos he]
  have hb : ∀ n, kr_b S e n = kr_b R e n := by
    intro n
    induction n with
    | zero => rfl
    | succ n ih => unfold kr_b kr_sz; rw [ih, h35]
  unfold kr_fr
  rw [h38, hb]
theorem kr_c_g {R : kb_M} {g : Nat} (hg : g < 2) (b : Nat) : kr_c R (2 + g) b = kr_l R g (nI b) (kr_bd R g) := by
  unfold kr_c
  rw [if_neg (by omega), show 2 + g - 2 = g by omega]
theorem kr_env2 {e : Nat} (he : e < 4) : e < 2 ∨ ∃ g, g < 2 ∧ e = 2 + g := by
  by_cases h : e < 2
  · exact Or.inl h
  · exact Or.inr ⟨e - 2, by omega, by omega⟩
theorem nI_ne {a b : Nat} (ha : a < 1000) (hb : b < 1000) (h : a ≠ b) : nI a ≠ nI b := fun q => h ((nI_eq (by omega) (by omega)).mp q)
theorem nI_m1 {a : Nat} (ha : a < 1000) : nI a ≠ -1 := fun q => by
  have h := nI_pos (n := a) (by omega)
  rw [q] at h
  exact h (by decide)
theorem kr_2 {s : Nat} (hs : s < 1000) : (2 : Int32) ≤ nI s ↔ 2 ≤ s := nI_leI (a := 2) (by omega) (by omega)
theorem kp_hn {C : kb_M} (hH : ki_H C) {b : Nat} (hb : b < 2) : ∀ r, r < 12 + 12 * b → C (4 + 3 * b) r = -1 ∨ ∃ e, e < 4 ∧ C (4 + 3 * b) r = nI e := hH b hb
set_option maxHeartbeats 1000000 in
/-- a live ticket ends -/
theorem ki_end {N : Nat} {C R : kb_M} (h : ki_J N C R) {g t b r s : Nat} (hg : g < 2) (ht : t < kr_bd R g) (hl : 2 ≤ R 42 (60 * g + t)) (hb : b < 2) (hkd : R 41 (60 * g + t) = nI b) (hr : r < 12 + 12 * b) (hres : C (11 + 5 * g) t = nI r) (hs : s < 2) :
    ki_J N (kb_up (kb_up C (12 + 5 * g) t (nI s)) (4 + 3 * b) r (-1)) (kb_up R 42 (60 * g + t) (nI s)) := by
  obtain ⟨hR, hst, hH, hN, hG, hA⟩ := h
  have hle := (hR.1 g hg).2
  obtain ⟨g1, g2, g3, g4⟩ := hG g hg
  have hown : C (4 + 3 * b) r = nI (2 + g) := by
    obtain ⟨r', q1, q2, q3, -⟩ := g3 t ht hl b hb hkd
    have e : nI r = nI r' := hres.symm.trans q2
    rw [nI_eq (by omega) (by omega)] at e
    rw [e]; exact q3
  have eC : ∀ k, k ≠ 12 + 5 * g → k ≠ 4 + 3 * b → (kb_up (kb_up C (12 + 5 * g) t (nI s)) (4 + 3 * b) r (-1)) k = C k := fun k h1 h2 => by rw [kb_up_ne _ _ _ h2, kb_up_ne _ _ _ h1]
  have eH : (kb_up (kb_up C (12 + 5 * g) t (nI s)) (4 + 3 * b) r (-1)) (4 + 3 * b) = upd (C (4 + 3 * b)) r (-1) := by rw [kb_up_at, kb_up_ne _ _ _ (by omega)]
  have eT : (kb_up (kb_up C (12 + 5 * g) t (nI s)) (4 + 3 * b) r (-1)) (12 + 5 * g) = upd (C (12 + 5 * g)) t (nI s) := by rw [kb_up_ne _ _ _ (by omega), kb_up_at]
  have eR : ∀ k, k ≠ 42 → (kb_up R 42 (60 * g + t) (nI s)) k = R k := fun k h1 => kb_up_ne _ _ _ h1
  have e42 : (kb_up R 42 (60 * g + t) (nI s)) 42 = upd (R 42) (60 * g + t) (nI s) := kb_up_at _ _ _ _
  have ebd : ∀ q, kr_bd (kb_up R 42 (60 * g + t) (nI s)) q = kr_bd R q := fun q => by unfold kr_bd; rw [eR 39 (by decide)]
  have keep : ∀ e, e < 4 → e ≠ 2 + g → ki_keep C (kb_up (kb_up C (12 + 5 * g) t (nI s)) (4 + 3 * b) r (-1)) e := by
    intro e he hne
    refine kk_trans (kk_other _ _ (fun c hc => ⟨by omega, by omega⟩)) (kk_hold _ hb ?_)
    rw [kb_up_ne _ _ _ (by omega), hown]
    exact nI_ne (by omega) (by omega) (fun q => hne q.symm)
  have hR' : kr_ok (kb_up R 42 (60 * g + t) (nI s)) := kr_ok_eq hR (eR _ (by decide)) (eR _ (by decide)) (eR _ (by decide)) (eR _ (by decide)) (eR _ (by decide))
  have nl : ¬ (2 : Int32) ≤ nI s := by rw [kr_2 (by omega)]; omega
  refine ⟨hR', fun j hj => ?_, fun c hc q hq => ?_, fun c hc e he => ?_, fun d hd => ?_, fun a ha => ?_⟩
  · rw [e42]
    unfold upd
    by_cases hjt : j = 60 * g + t
    · rw [if_pos hjt]; exact ⟨s, by omega, rfl⟩
    · rw [if_neg hjt]; exact hst j hj
  · by_cases hcb : c = b
    · subst hcb
      rw [eH]
      unfold upd
      by_cases hqr : q = r
      · rw [if_pos hqr]; exact Or.inl rfl
      · rw [if_neg hqr]; exact hH c hc q hq
    · rw [eC _ (by omega) (by omega)]
      exact hH c hc q hq
  · have hold := hN c hc e he
    rcases kr_env2 he with he2 | ⟨d, hd, rfl⟩
    · rw [kr_c_app (eR 35 (by decide)) (eR 38 (by decide)) he2, ← hold]
      by_cases hcb : c = b
      · subst hcb
        rw [eH]
        have h1 := kp_c_upd (f := C (4 + 3 * c)) (x := -1) (e := nI e) (12 + 12 * c) hr
        rw [hown, if_neg (nI_ne (by omega) (by omega) (by omega)), if_neg (fun q => nI_m1 (by omega) q.symm)] at h1
        omega
      · rw [eC _ (by omega) (by omega)]
    · rw [kr_c_g hd, ebd]
      rw [kr_c_g hd] at hold
      by_cases hdg : d = g
      · subst hdg
        have h2 := kr_l_end (R := R) (S := kb_up R 42 (60 * d + t) (nI s)) (g := d) (t := t) (b := nI c) (kr_bd R d) ht (fun u _ => by rw [eR 41 (by decide)]) (fun u _ hu => by rw [e42]; exact pk_un (by omega)) hl (by rw [e42, pk_us]; exact nl)
        rw [hkd] at h2
        by_cases hcb : c = b
        · subst hcb
          rw [if_pos rfl] at h2
          rw [eH]
          have h1 := kp_c_upd (f := C (4 + 3 * c)) (x := -1) (e := nI (2 + d)) (12 + 12 * c) hr
          rw [hown, if_pos rfl, if_neg (fun q => nI_m1 (by omega) q.symm)] at h1
          omega
        · rw [if_neg (nI_ne (by omega) (by omega) (fun q => hcb q.symm))] at h2
          rw [eC _ (by omega) (by omega), hold]
          omega
      · rw [kr_l_eq (R := R) _ (fun u hu => ⟨by rw [eR 41 (by decide)], by
          have hdl := (hR.1 d hd).2
          rw [e42, pk_un (by omega)]⟩), ← hold]
        by_cases hcb : c = b
        · subst hcb
          rw [eH]
          have h1 := kp_c_upd (f := C (4 + 3 * c)) (x := -1) (e := nI (2 + d)) (12 + 12 * c) hr
          rw [hown, if_neg (nI_ne (by omega) (by omega) (by omega)), if_neg (fun q => nI_m1 (by omega) q.symm)] at h1
          omega
        · rw [eC _ (by omega) (by omega)]
  · by_cases hdg : d = g
    · subst hdg
      unfold ki_G
      rw [ebd, eC (9 + 5 * d) (by omega) (by omega), eC (10 + 5 * d) (by omega) (by omega), eC (11 + 5 * d) (by omega) (by omega), eC (13 + 5 * d) (by omega) (by omega), eT, eR 39 (by decide), eR 41 (by decide), eR 43 (by decide), e42, eR 44 (by decide)]
      have dead : ∀ u, 2 ≤ upd (R 42) (60 * d + t) (nI s) (60 * d + u) → u ≠ t ∧ 2 ≤ R 42 (60 * d + u) := by
        intro u hu
        by_cases hut : u = t
        · subst hut
          rw [pk_us] at hu
          exact absurd hu nl
        · rw [pk_un (by omega)] at hu
          exact ⟨hut, hu⟩
      refine ⟨g1, fun u hu => ?_, fun u hu hlu c hc hku => ?_, fun u v hu hv hlu hlv hkv he => ?_⟩
      · by_cases hut : u = t
        · subst hut
          rw [pk_us, pk_us]
          refine ⟨(g2 u hu).1, rfl, fun q => ?_⟩
          rw [show (3 : Int32) = nI 3 from rfl, nI_eq (by omega) (by omega)] at q
          omega
        · rw [pk_un hut, pk_un (by omega)]
          exact g2 u hu
      · obtain ⟨hut, hlu⟩ := dead u hlu
        obtain ⟨r', q1, q2, q3, q4⟩ := g3 u hu hlu c hc hku
        refine ⟨r', q1, q2, ?_, fun k hk => by rw [eC _ (by omega) (by omega)]; exact q4 k hk⟩
        by_cases hcb : c = b
        · subst hcb
          rw [eH, pk_un (fun q => hut (g4 u t hu ht hlu hl (hku.trans hkd.symm) (by rw [q2, hres, q])))]
          exact q3
        · rw [eC _ (by omega) (by omega)]
          exact q3
      · exact g4 u v hu hv (dead u hlu).2 (dead v hlv).2 hkv he
    · refine ki_G_fr (hG d hd) hR hd (fun k h1 h2 => eC k (by omega) (by omega)) ⟨by rw [eR 39 (by decide)], fun u hu => ⟨by rw [eR 41 (by decide)], by rw [e42, pk_un (by omega)], by rw [eR 43 (by decide)]⟩, fun u k _ _ => by rw [eR 44 (by decide)]⟩ (keep (2 + d) (by omega) (by omega))
  · exact ki_A_fr (hA a ha) hR ha (fun k h1 h2 => eC k (by omega) (by omega)) (fun k h1 h2 => eR k (by omega)) (keep a (by omega) (by omega))
set_option maxHeartbeats 1000000 in
/-- a ticket is asked for -/
theorem ki_ask {N : Nat} {C R : kb_M} (h : ki_J N C R) {g t : Nat} (hg : g < 2) (ht : t < kr_bd R g) (hl : R 42 (60 * g + t) = 2) (d : Int32) :
    ki_J N (kb_up (kb_up C (12 + 5 * g) t 3) (13 + 5 * g) t d) (kb_up (kb_up R 42 (60 * g + t) 3) 43 (60 * g + t) d) := by
  obtain ⟨hR, hst, hH, hN, hG, hA⟩ := h
  have hle := (hR.1 g hg).2
  obtain ⟨g1, g2, g3, g4⟩ := hG g hg
  have eC : ∀ k, k ≠ 12 + 5 * g → k ≠ 13 + 5 * g → (kb_up (kb_up C (12 + 5 * g) t 3) (13 + 5 * g) t d) k = C k := fun k h1 h2 => by rw [kb_up_ne _ _ _ h2, kb_up_ne _ _ _ h1]
  have eS : (kb_up (kb_up C (12 + 5 * g) t 3) (13 + 5 * g) t d) (12 + 5 * g) = upd (C (12 + 5 * g)) t 3 := by rw [kb_up_ne _ _ _ (by omega), kb_up_at]
  have eD : (kb_up (kb_up C (12 + 5 * g) t 3) (13 + 5 * g) t d) (13 + 5 * g) = upd (C (13 + 5 * g)) t d := by rw [kb_up_at, kb_up_ne _ _ _ (by omega)]
  have eR : ∀ k, k ≠ 42 → k ≠ 43 → (kb_up (kb_up R 42 (60 * g + t) 3) 43 (60 * g + t) d) k = R k := fun k h1 h2 => by rw [kb_up_ne _ _ _ h2, kb_up_ne _ _ _ h1]
  have e42 : (kb_up (kb_up R 42 (60 * g + t) 3) 43 (60 * g + t) d) 42 = upd (R 42) (60 * g + t) 3 := by rw [kb_up_ne _ _ _ (by omega), kb_up_at]
  have e43 : (kb_up (kb_up R 42 (60 * g + t) 3) 43 (60 * g + t) d) 43 = upd (R 43) (60 * g + t) d := by rw [kb_up_at, kb_up_ne _ _ _ (by omega)]
  have ebd : ∀ q, kr_bd (kb_up (kb_up R 42 (60 * g + t) 3) 43 (60 * g + t) d) q = kr_bd R q := fun q => by unfold kr_bd; rw [eR 39 (by decide) (by decide)]
  have keep : ∀ e, ki_keep C (kb_up (kb_up C (12 + 5 * g) t 3) (13 + 5 * g) t d) e := fun e => kk_rows e (fun b hb => ⟨eC _ (by omega) (by omega), eC _ (by omega) (by omega)⟩)
  have hR' : kr_ok (kb_up (kb_up R 42 (60 * g + t) 3) 43 (60 * g + t) d) := kr_ok_eq hR (eR _ (by decide) (by decide)) (eR _ (by decide) (by decide)) (eR _ (by decide) (by decide)) (eR _ (by decide) (by decide)) (eR _ (by decide) (by decide))
  have live : ∀ j, 2 ≤ upd (R 42) (60 * g + t) 3 j ↔ 2 ≤ R 42 j := by
    intro j
    unfold upd
    by_cases hj : j = 60 * g + t
    · rw [if_pos hj, hj, hl]
      exact ⟨fun _ => by decide, fun _ => by decide⟩
    · rw [if_neg hj]
  refine ⟨hR', fun j hj => ?_, fun c hc q hq => ?_, fun c hc e he => ?_, fun f hf => ?_, fun a ha => ?_⟩
  · rw [e42]
    unfold upd
    by_cases hjt : j = 60 * g + t
    · rw [if_pos hjt]; exact ⟨3, by omega, rfl⟩
    · rw [if_neg hjt]; exact hst j hj
  · rw [eC _ (by omega) (by omega)]
    exact hH c hc q hq
  · have hold := hN c hc e he
    rw [eC _ (by omega) (by omega), hold]
    rcases kr_env2 he with he2 | ⟨f, hf, rfl⟩
    · rw [kr_c_app (eR 35 (by decide) (by decide)) (eR 38 (by decide) (by decide)) he2]
    · have e := kr_l_eq (R := R) (S := kb_up (kb_up R 42 (60 * g + t) 3) 43 (60 * g + t) d) (g := f) (b := nI c) (kr_bd R f) (fun u hu => ⟨by rw [eR 41 (by decide) (by decide)], by rw [e42]; exact live _⟩)
      rw [kr_c_g hf, kr_c_g hf, ebd, e]
  · by_cases hfg : f = g
    · subst hfg
      unfold ki_G
      rw [ebd, eC (9 + 5 * f) (by omega) (by omega), eC (10 + 5 * f) (by omega) (by omega), eC (11 + 5 * f) (by omega) (by omega), eS, eD, eR 39 (by decide) (by decide), eR 41 (by decide) (by decide), e42, e43, eR 44 (by decide) (by decide)]
      refine ⟨g1, fun u hu => ?_, fun u hu hlu c hc hku => ?_, fun u v hu hv hlu hlv hkv he => ?_⟩
      · by_cases hut : u = t
        · subst hut
          rw [pk_us, pk_us, pk_us, pk_us]
          exact ⟨(g2 u hu).1, rfl, fun _ => rfl⟩
        · rw [pk_un hut, pk_un (by omega), pk_un hut, pk_un (by omega)]
          exact g2 u hu
      · obtain ⟨r', q1, q2, q3, q4⟩ := g3 u hu ((live _).mp hlu) c hc hku
        exact ⟨r', q1, q2, by rw [eC _ (by omega) (by omega)]; exact q3, fun k hk => by rw [eC _ (by omega) (by omega)]; exact q4 k hk⟩
      · exact g4 u v hu hv ((live _).mp hlu) ((live _).mp hlv) hkv he
    · exact ki_G_fr (hG f hf) hR hf (fun k h1 h2 => eC k (by omega) (by omega)) ⟨by rw [eR 39 (by decide) (by decide)], fun u hu => ⟨by rw [eR 41 (by decide) (by decide)], by rw [e42, pk_un (by omega)], by rw [e43, pk_un (by omega)]⟩, fun u k _ _ => by rw [eR 44 (by decide) (by decide)]⟩ (keep (2 + f))
  · exact ki_A_fr (hA a ha) hR ha (fun k h1 h2 => eC k (by omega) (by omega)) (fun k h1 h2 => eR k (by omega) (by omega)) (keep a)
set_option maxHeartbeats 1000000 in
/-- guest g gets one more binding -/
theorem ki_bind {N : Nat} {C R : kb_M} (h : ki_J N C R) {g b r : Nat} (hg : g < 2) (hb : b < 2) (hn : kr_bd R g < 60) (hr : r < 12 + 12 * b) (hfree : C (4 + 3 * b) r = -1) :
    ki_J N (kb_up (kb_up (kb_up (kb_up (kb_ro (kb_up C (4 + 3 * b) r (nI (2 + g))) (5 + 3 * b) (fun j => if j / 4 = r then 0 else C (5 + 3 * b) j)) (10 + 5 * g) (kr_bd R g) (nI b)) (11 + 5 * g) (kr_bd R g) (nI r)) (12 + 5 * g) (kr_bd R g) 2) (9 + 5 * g) 7 (nI (kr_bd R g + 1))) (kr_bi R g (nI b)) := by
  obtain ⟨hR, hst, hH, hN, hG, hA⟩ := h
  obtain ⟨g1, g2, g3, g4⟩ := hG g hg
  generalize hne : kr_bd R g = n at *
  generalize hD : kb_up (kb_up (kb_up (kb_up (kb_ro (kb_up C (4 + 3 * b) r (nI (2 + g))) (5 + 3 * b) (fun j => if j / 4 = r then 0 else C (5 + 3 * b) j)) (10 + 5 * g) n (nI b)) (11 + 5 * g) n (nI r)) (12 + 5 * g) n 2) (9 + 5 * g) 7 (nI (n + 1)) = D
  generalize hS : kr_bi R g (nI b) = S
  have eC : ∀ k, k ≠ 4 + 3 * b → k ≠ 5 + 3 * b → k ≠ 9 + 5 * g → k ≠ 10 + 5 * g → k ≠ 11 + 5 * g → k ≠ 12 + 5 * g → D k = C k := fun k h1 h2 h3 h4 h5 h6 => by rw [← hD, kb_up_ne _ _ _ h3, kb_up_ne _ _ _ h6, kb_up_ne _ _ _ h5, kb_up_ne _ _ _ h4, kb_ro_ne _ _ h2, kb_up_ne _ _ _ h1]
  have eH : D (4 + 3 * b) = upd (C (4 + 3 * b)) r (nI (2 + g)) := by rw [← hD, kb_up_ne _ _ _ (by omega), kb_up_ne _ _ _ (by omega), kb_up_ne _ _ _ (by omega), kb_up_ne _ _ _ (by omega), kb_ro_ne _ _ (by omega), kb_up_at]
  have eW : D (5 + 3 * b) = fun j => if j / 4 = r then 0 else C (5 + 3 * b) j := by rw [← hD, kb_up_ne _ _ _ (by omega), kb_up_ne _ _ _ (by omega), kb_up_ne _ _ _ (by omega), kb_up_ne _ _ _ (by omega), kb_ro_at]
  have e9 : D (9 + 5 * g) = upd (C (9 + 5 * g)) 7 (nI (n + 1)) := by rw [← hD, kb_up_at, kb_up_ne _ _ _ (by omega), kb_up_ne _ _ _ (by omega), kb_up_ne _ _ _ (by omega), kb_ro_ne _ _ (by omega), kb_up_ne _ _ _ (by omega)]
  have e10 : D (10 + 5 * g) = upd (C (10 + 5 * g)) n (nI b) := by rw [← hD, kb_up_ne _ _ _ (by omega), kb_up_ne _ _ _ (by omega), kb_up_ne _ _ _ (by omega), kb_up_at, kb_ro_ne _ _ (by omega), kb_up_ne _ _ _ (by omega)]
  have e11 : D (11 + 5 * g) = upd (C (11 + 5 * g)) n (nI r) := by rw [← hD, kb_up_ne _ _ _ (by omega), kb_up_ne _ _ _ (by omega), kb_up_at, kb_up_ne _ _ _ (by omega), kb_ro_ne _ _ (by omega), kb_up_ne _ _ _ (by omega)]
  have e12 : D (12 + 5 * g) = upd (C (12 + 5 * g)) n 2 := by rw [← hD, kb_up_ne _ _ _ (by omega), kb_up_at, kb_up_ne _ _ _ (by omega), kb_up_ne _ _ _ (by omega), kb_ro_ne _ _ (by omega), kb_up_ne _ _ _ (by omega)]
  have eR : ∀ k, k ≠ 39 → k ≠ 41 → k ≠ 42 → k ≠ 44 → S k = R k := fun k h1 h2 h3 h4 => by rw [← hS]; unfold kr_bi; rw [kb_up_ne _ _ _ h1, kb_ro_ne _ _ h4, kb_up_ne _ _ _ h3, kb_up_ne _ _ _ h2]
  have s39 : S 39 = upd (R 39) g (nI (n + 1)) := by rw [← hS]; unfold kr_bi; rw [hne, kb_up_at, kb_ro_ne _ _ (by decide), kb_up_ne _ _ _ (by decide), kb_up_ne _ _ _ (by decide)]
  have s41 : S 41 = upd (R 41) (60 * g + n) (nI b) := by rw [← hS]; unfold kr_bi; rw [hne, kb_up_ne _ _ _ (by decide), kb_ro_ne _ _ (by decide), kb_up_ne _ _ _ (by decide), kb_up_at]
  have s42 : S 42 = upd (R 42) (60 * g + n) 2 := by rw [← hS]; unfold kr_bi; rw [hne, kb_up_ne _ _ _ (by decide), kb_ro_ne _ _ (by decide), kb_up_at, kb_up_ne _ _ _ (by decide)]
  have s44 : S 44 = fun q => if q / 4 = 60 * g + n then 0 else R 44 q := by rw [← hS]; unfold kr_bi; rw [hne, kb_up_ne _ _ _ (by decide), kb_ro_at]
  have bdg : kr_bd S g = n + 1 := by unfold kr_bd; rw [s39, pk_us, nI_clamp (by omega)]
  have bdo : ∀ d, d ≠ g → kr_bd S d = kr_bd R d := fun d hd => by unfold kr_bd; rw [s39, pk_un hd]
  have hnb : C (4 + 3 * b) r ≠ nI (2 + g) := by rw [hfree]; exact fun q => nI_m1 (by omega) q.symm
  have keep : ∀ e, e < 4 → ki_keep C D e := by
    intro e he c hc q hq hce
    by_cases hcb : c = b
    · subst hcb
      have hqr : q ≠ r := fun z => by rw [z, hfree] at hce; exact nI_m1 (by omega) hce.symm
      rw [eH, eW, pk_un hqr]
      exact ⟨hce, fun k hk => by show (if _ then _ else _) = _; rw [if_neg (by omega)]⟩
    · rw [eC (4 + 3 * c) (by omega) (by omega) (by omega) (by omega) (by omega) (by omega), eC (5 + 3 * c) (by omega) (by omega) (by omega) (by omega) (by omega) (by omega)]
      exact ⟨hce, fun _ _ => rfl⟩
  have hbb : nI b = 0 ∨ nI b = 1 := by
    match b, hb with
    | 0, _ => exact Or.inl rfl
    | 1, _ => exact Or.inr rfl
  have hR' : kr_ok S := by
    obtain ⟨o1, o2, o3, o4, o5⟩ := hR
    refine ⟨fun d hd => ?_, ?_, ?_, fun j hj => ?_, ?_⟩
    · unfold kr_bd
      rw [s39]
      unfold upd
      by_cases hdg : d = g
      · rw [if_pos hdg, nI_clamp (by omega)]; exact ⟨rfl, by omega⟩
      · rw [if_neg hdg]; exact o1 d hd
    · unfold kr_sz; rw [eR 35 (by decide) (by decide) (by decide) (by decide)]; exact o2
    · unfold kr_fr; rw [eR 38 (by decide) (by decide) (by decide) (by decide)]; exact o3
    · rw [s41]
      unfold upd
      by_cases hjn : j = 60 * g + n
      · rw [if_pos hjn]; exact hbb
      · rw [if_neg hjn]; exact o4 j hj
    · rw [eR 37 (by decide) (by decide) (by decide) (by decide)]; exact o5
  refine ⟨hR', fun j hj => ?_, fun c hc q hq => ?_, fun c hc e he => ?_, fun d hd => ?_, fun a ha => ?_⟩
  · rw [s42]
    unfold upd
    by_cases hjn : j = 60 * g + n
    · rw [if_pos hjn]; exact ⟨2, by omega, rfl⟩
    · rw [if_neg hjn]; exact hst j hj
  · by_cases hcb : c = b
    · subst hcb
      rw [eH]
      unfold upd
      by_cases hqr : q = r
      · rw [if_pos hqr]; exact Or.inr ⟨2 + g, by omega, rfl⟩
      · rw [if_neg hqr]; exact hH c hc q hq
    · rw [eC (4 + 3 * c) (by omega) (by omega) (by omega) (by omega) (by omega) (by omega)]
      exact hH c hc q hq
  · have hold := hN c hc e he
    have hcc : kp_c (D (4 + 3 * c)) (nI e) (12 + 12 * c) = kp_c (C (4 + 3 * c)) (nI e) (12 + 12 * c) + (if c = b ∧ e = 2 + g then 1 else 0) := by
      by_cases hcb : c = b
      · subst hcb
        rw [eH]
        have h1 := kp_c_upd (f := C (4 + 3 * c)) (x := nI (2 + g)) (e := nI e) (12 + 12 * c) hr
        rw [hfree, if_neg (fun q => nI_m1 (by omega) q.symm)] at h1
        by_cases heg : e = 2 + g
        · rw [if_pos (by rw [heg])] at h1
          rw [if_pos ⟨rfl, heg⟩]
          omega
        · rw [if_neg (nI_ne (by omega) (by omega) (fun q => heg q.symm))] at h1
          rw [if_neg (fun q => heg q.2)]
          omega
      · rw [eC (4 + 3 * c) (by omega) (by omega) (by omega) (by omega) (by omega) (by omega), if_neg (fun q => hcb q.1)]
        omega
    rw [hcc, hold]
    rcases kr_env2 he with he2 | ⟨d, hd, rfl⟩
    · rw [kr_c_app (R := R) (S := S) (eR 35 (by decide) (by decide) (by decide) (by decide)) (eR 38 (by decide) (by decide) (by decide) (by decide)) he2, if_neg (by omega)]
      rfl
    · rw [kr_c_g hd, kr_c_g hd]
      by_cases hdg : d = g
      · subst hdg
        rw [bdg, hne]
        have e1 : kr_l S d (nI c) (n + 1) = kr_l S d (nI c) n + (if 2 ≤ S 42 (60 * d + n) ∧ S 41 (60 * d + n) = nI c then 1 else 0) := rfl
        have e2 := kr_l_eq (R := R) (S := S) (g := d) (b := nI c) n (fun u hu => ⟨by rw [s41, pk_un (by omega)], by rw [s42, pk_un (by omega)]⟩)
        rw [e1, e2, s42, s41, pk_us, pk_us]
        by_cases hcb : c = b
        · rw [if_pos ⟨hcb, rfl⟩, if_pos ⟨by decide, by rw [hcb]⟩]
        · rw [if_neg (fun q => hcb q.1), if_neg (fun q => nI_ne (by omega) (by omega) (fun z => hcb z.symm) q.2)]
      · have hdl := (hR.1 d hd).2
        rw [bdo d hdg, if_neg (by omega)]
        have e2 := kr_l_eq (R := R) (S := S) (g := d) (b := nI c) (kr_bd R d) (fun u hu => ⟨by rw [s41, pk_un (by omega)], by rw [s42, pk_un (by omega)]⟩)
        rw [e2]
        rfl
  · by_cases hdg : d = g
    · subst hdg
      unfold ki_G
      rw [bdg, e9, e10, e11, e12, eC (13 + 5 * d) (by omega) (by omega) (by omega) (by omega) (by omega) (by omega), s39, s41, s42, eR 43 (by decide) (by decide) (by decide) (by decide), s44]
      refine ⟨by rw [pk_us, pk_us], fun u hu => ?_, fun u hu hlu c hc hku => ?_, fun u v hu hv hlu hlv hkv he => ?_⟩
      · by_cases hun : u = n
        · subst hun
          rw [pk_us, pk_us, pk_us, pk_us]
          exact ⟨rfl, rfl, fun q => absurd q (by decide)⟩
        · rw [pk_un hun, pk_un (by omega), pk_un hun, pk_un (by omega)]
          exact g2 u (by omega)
      · by_cases hun : u = n
        · subst hun
          rw [pk_us] at hku
          have hcb : b = c := (nI_eq (by omega) (by omega)).mp hku
          subst hcb
          refine ⟨r, hr, pk_us, by rw [eH]; exact pk_us, fun k hk => ?_⟩
          rw [eW]
          show (if _ then _ else _) = (if _ then _ else _)
          rw [if_pos (by omega), if_pos (by omega)]
        · rw [pk_un (by omega)] at hlu hku
          obtain ⟨r', q1, q2, q3, q4⟩ := g3 u (by omega) hlu c hc hku
          obtain ⟨k1, k2⟩ := keep (2 + d) (by omega) c hc r' q1 q3
          refine ⟨r', q1, by rw [pk_un hun]; exact q2, k1, fun k hk => ?_⟩
          rw [k2 k hk, q4 k hk]
          show _ = (if _ then _ else _)
          rw [if_neg (by omega)]
      · by_cases hun : u = n
        · by_cases hvn : v = n
          · omega
          · exfalso
            subst hun
            rw [pk_us, pk_un (by omega)] at hkv
            rw [pk_us, pk_un hvn] at he
            rw [pk_un (by omega)] at hlv
            obtain ⟨r', q1, q2, q3, -⟩ := g3 v (by omega) hlv b hb hkv.symm
            have e : nI r = nI r' := he.trans q2
            rw [nI_eq (by omega) (by omega)] at e
            rw [← e, hfree] at q3
            exact nI_m1 (by omega) q3.symm
        · by_cases hvn : v = n
          · exfalso
            subst hvn
            rw [pk_us, pk_un (by omega)] at hkv
            rw [pk_us, pk_un hun] at he
            rw [pk_un (by omega)] at hlu
            obtain ⟨r', q1, q2, q3, -⟩ := g3 u (by omega) hlu b hb hkv
            have e : nI r = nI r' := he.symm.trans q2
            rw [nI_eq (by omega) (by omega)] at e
            rw [← e, hfree] at q3
            exact nI_m1 (by omega) q3.symm
          · rw [pk_un (by omega)] at hlu hlv
            rw [pk_un (by omega), pk_un (by omega)] at hkv
            rw [pk_un hun, pk_un hvn] at he
            exact g4 u v (by omega) (by omega) hlu hlv hkv he
    · exact ki_G_fr (hG d hd) hR hd (fun k h1 h2 => eC k (by omega) (by omega) (by omega) (by omega) (by omega) (by omega)) ⟨by rw [s39, pk_un hdg], fun u hu => ⟨by rw [s41, pk_un (by omega)], by rw [s42, pk_un (by omega)], by rw [eR 43 (by decide) (by decide) (by decide) (by decide)]⟩, fun u k hu hk => by rw [s44]; show (if _ then _ else _) = _; rw [if_neg (by omega)]⟩ (keep (2 + d) (by omega))
  · exact ki_A_fr (hA a ha) hR ha (fun k h1 h2 => eC k (by omega) (by omega) (by omega) (by omega) (by omega) (by omega)) (fun k h1 h2 => eR k (by omega) (by omega) (by omega) (by omega)) (keep a (by omega))
