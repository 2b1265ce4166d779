/-! words of a ticket; the time moves -/
theorem kj_C {N : Nat} {C D R : kb_M} (h : ki_J N C R) (h1 : ∀ j, j ≠ 1 → j ≠ 9 → j ≠ 14 → j ≠ 19 → j ≠ 26 → D j = C j) (h7 : ∀ j, j = 9 ∨ j = 14 ∨ j = 19 ∨ j = 26 → D j 7 = C j 7) : ki_J N D R := by
  obtain ⟨hR, hst, hH, hN, hG, hA⟩ := h
  refine ⟨hR, hst, fun b hb r hr => ?_, fun b hb e he => ?_, fun g hg => ?_, fun a ha => ?_⟩
  · rw [h1 _ (by omega) (by omega) (by omega) (by omega) (by omega)]
    exact hH b hb r hr
  · rw [h1 _ (by omega) (by omega) (by omega) (by omega) (by omega)]
    exact hN b hb e he
  · have q := hG g hg
    unfold ki_G at q ⊢
    rw [h7 (9 + 5 * g) (by omega), h1 (10 + 5 * g) (by omega) (by omega) (by omega) (by omega) (by omega), h1 (11 + 5 * g) (by omega) (by omega) (by omega) (by omega) (by omega), h1 (12 + 5 * g) (by omega) (by omega) (by omega) (by omega) (by omega), h1 (13 + 5 * g) (by omega) (by omega) (by omega) (by omega) (by omega)]
    refine ⟨q.1, q.2.1, fun t ht hl b hb hk => ?_, q.2.2.2⟩
    rw [h1 (4 + 3 * b) (by omega) (by omega) (by omega) (by omega) (by omega), h1 (5 + 3 * b) (by omega) (by omega) (by omega) (by omega) (by omega)]
    exact q.2.2.1 t ht hl b hb hk
  · obtain ⟨a1, a2, ⟨p1, p2, p3⟩, ⟨L, l1, l2, l3, l4, l5, l6⟩, hw⟩ := hA a ha
    have d1 := h7 (19 + 7 * a) (by omega)
    have d2 := h1 (20 + 7 * a) (by omega) (by omega) (by omega) (by omega) (by omega)
    have d3 := h1 (21 + 7 * a) (by omega) (by omega) (by omega) (by omega) (by omega)
    have d4 := h1 4 (by omega) (by omega) (by omega) (by omega) (by omega)
    have d5 := h1 5 (by omega) (by omega) (by omega) (by omega) (by omega)
    have d7 := h1 7 (by omega) (by omega) (by omega) (by omega) (by omega)
    have d8 := h1 8 (by omega) (by omega) (by omega) (by omega) (by omega)
    have ds : ∀ s, s < 3 → D (23 + 7 * a + s) = C (23 + 7 * a + s) := fun s hs => h1 _ (by omega) (by omega) (by omega) (by omega) (by omega)
    refine ⟨⟨by rw [d2]; exact a1.1, a1.2⟩, by rw [d1]; exact a2, ⟨?_, ?_, ?_⟩, ⟨L, l1, l2, l3, ?_, ?_, ?_⟩, ?_⟩
    · rw [d3, d7]; exact p1
    · rw [d3]; exact p2
    · rw [d3]; exact p3
    · intro s hs hn
      rw [ds s hs]; exact l4 s hs hn
    · intro j s hj
      rw [ds s (l3 s (List.mem_of_getElem? hj)), d1, d4]
      exact l5 j s hj
    · intro j i s z hji hj hi
      rw [ds s (l3 s (List.mem_of_getElem? hj)), ds z (l3 z (List.mem_of_getElem? hi))]
      exact l6 j i s z hji hj hi
    · intro f i r hf hi hr hr24
      rw [d3] at hr
      rw [d5, d8]
      obtain ⟨w1, w2⟩ := hw f i r hf hi hr hr24
      refine ⟨fun s r0 hs => ?_, fun hno => w2 (fun s hs => by rw [← ds s hs]; exact hno s hs)⟩
      rw [ds s hs]
      exact w1 s r0 hs
theorem kj_R {N : Nat} {C R S : kb_M} (h : ki_J N C R) (h1 : ∀ k, 34 ≤ k → k ≤ 44 → k ≠ 40 → S k = R k) : ki_J N C S := by
  obtain ⟨hR, hst, hH, hN, hG, hA⟩ := h
  have e35 := h1 35 (by omega) (by omega) (by omega)
  have e37 := h1 37 (by omega) (by omega) (by omega)
  have e38 := h1 38 (by omega) (by omega) (by omega)
  have e39 := h1 39 (by omega) (by omega) (by omega)
  have e41 := h1 41 (by omega) (by omega) (by omega)
  have e42 := h1 42 (by omega) (by omega) (by omega)
  refine ⟨kr_ok_eq hR e35 e37 e38 e39 e41, by rw [e42]; exact hst, hH, fun b hb e he => ?_, fun g hg => ki_G_fr (hG g hg) hR hg (fun _ _ _ => rfl) ⟨by rw [e39], fun t _ => ⟨by rw [e41], by rw [e42], by rw [h1 43 (by omega) (by omega) (by omega)]⟩, fun t k _ _ => by rw [h1 44 (by omega) (by omega) (by omega)]⟩ (kk_refl C _), fun a ha => ki_A_fr (hA a ha) hR ha (fun _ _ _ => rfl) (fun k g1 g2 => h1 k (by omega) (by omega) (by omega)) (kk_refl C _)⟩
  rw [hN b hb e he]
  rcases kr_env2 he with he2 | ⟨d, hd, rfl⟩
  · rw [kr_c_app (R := R) (S := S) e35 e38 he2]
  · rw [kr_c_g hd, kr_c_g hd]
    have q := kr_l_eq (R := R) (S := S) (g := d) (b := nI b) (kr_bd R d) (fun u hu => ⟨by rw [e41], by rw [e42]⟩)
    unfold kr_bd at q ⊢
    rw [e39, q]
/-- the words of a live ticket change -/
theorem ki_wr {N : Nat} {C R : kb_M} (h : ki_J N C R) {g t b r : Nat} (hg : g < 2) (ht : t < kr_bd R g) (hl : 2 ≤ R 42 (60 * g + t)) (hb : b < 2) (hkd : R 41 (60 * g + t) = nI b) (hr : r < 12 + 12 * b) (hres : C (11 + 5 * g) t = nI r) {f w : Nat → Int32}
    (hf : ∀ j, j / 4 ≠ r → f j = C (5 + 3 * b) j) (hw : ∀ j, j / 4 ≠ 60 * g + t → w j = R 44 j) (hfw : ∀ k, k < 4 → f (4 * r + k) = w (4 * (60 * g + t) + k)) : ki_J N (kb_ro C (5 + 3 * b) f) (kb_ro R 44 w) := by
  obtain ⟨hR, hst, hH, hN, hG, hA⟩ := h
  have hle := (hR.1 g hg).2
  obtain ⟨g1, g2, g3, g4⟩ := hG g hg
  have hown : C (4 + 3 * b) r = nI (2 + g) := by
    obtain ⟨r', q1, q2, q3, -⟩ := g3 t ht hl b hb hkd
    have e : nI r = nI r' := hres.symm.trans q2
    rw [nI_eq (by omega) (by omega)] at e
    rw [e]; exact q3
  have eC : ∀ k, k ≠ 5 + 3 * b → (kb_ro C (5 + 3 * b) f) k = C k := fun k h1 => kb_ro_ne _ _ h1
  have eR : ∀ k, k ≠ 44 → (kb_ro R 44 w) k = R k := fun k h1 => kb_ro_ne _ _ h1
  have keep : ∀ e, e < 4 → e ≠ 2 + g → ki_keep C (kb_ro C (5 + 3 * b) f) e := fun e he hne => kk_words hb (by rw [hown]; exact nI_ne (by omega) (by omega) (fun q => hne q.symm)) hf
  have hR' : kr_ok (kb_ro R 44 w) := kr_ok_eq hR (eR _ (by decide)) (eR _ (by decide)) (eR _ (by decide)) (eR _ (by decide)) (eR _ (by decide))
  have ebd : ∀ q, kr_bd (kb_ro R 44 w) q = kr_bd R q := fun q => by unfold kr_bd; rw [eR 39 (by decide)]
  refine ⟨hR', by rw [eR 42 (by decide)]; exact hst, fun c hc q hq => by rw [eC _ (by omega)]; exact hH c hc q hq, fun c hc e he => ?_, fun d hd => ?_, fun a ha => ?_⟩
  · rw [eC _ (by omega), hN c hc e he]
    rcases kr_env2 he with he2 | ⟨d, hd, rfl⟩
    · rw [kr_c_app (R := R) (S := kb_ro R 44 w) (eR 35 (by decide)) (eR 38 (by decide)) he2]
    · have q := kr_l_eq (R := R) (S := kb_ro R 44 w) (g := d) (b := nI c) (kr_bd R d) (fun u hu => ⟨by rw [eR 41 (by decide)], by rw [eR 42 (by decide)]⟩)
      rw [kr_c_g hd, kr_c_g hd, ebd, q]
  · by_cases hdg : d = g
    · subst hdg
      unfold ki_G
      rw [ebd, eC (9 + 5 * d) (by omega), eC (10 + 5 * d) (by omega), eC (11 + 5 * d) (by omega), eC (12 + 5 * d) (by omega), eC (13 + 5 * d) (by omega), eR 39 (by decide), eR 41 (by decide), eR 42 (by decide), eR 43 (by decide), kb_ro_at]
      refine ⟨g1, g2, fun u hu hlu c hc hku => ?_, g4⟩
      obtain ⟨r', q1, q2, q3, q4⟩ := g3 u hu hlu c hc hku
      refine ⟨r', q1, q2, by rw [eC _ (by omega)]; exact q3, fun k hk => ?_⟩
      by_cases hut : u = t
      · subst hut
        have hcb : c = b := (nI_eq (by omega) (by omega)).mp (hku.symm.trans hkd)
        subst hcb
        have e : nI r = nI r' := hres.symm.trans q2
        rw [nI_eq (by omega) (by omega)] at e
        rw [← e, kb_ro_at]
        exact hfw k hk
      · rw [hw _ (by omega)]
        by_cases hcb : c = b
        · subst hcb
          have hrr : r' ≠ r := fun q => hut (g4 u t hu ht hlu hl (hku.trans hkd.symm) (by rw [q2, hres, q]))
          rw [kb_ro_at, hf _ (by omega)]
          exact q4 k hk
        · rw [eC _ (by omega)]
          exact q4 k hk
    · exact ki_G_fr (hG d hd) hR hd (fun k h1 h2 => eC k (by omega)) ⟨by rw [eR 39 (by decide)], fun u hu => ⟨by rw [eR 41 (by decide)], by rw [eR 42 (by decide)], by rw [eR 43 (by decide)]⟩, fun u k hu hk => by rw [kb_ro_at]; exact hw _ (by omega)⟩ (keep (2 + d) (by omega) (by omega))
  · exact ki_A_fr (hA a ha) hR ha (fun k h1 h2 => eC k (by omega)) (fun k h1 h2 => eR k (by omega)) (keep a (by omega) (by omega))
theorem kr_kd {R : kb_M} (hR : kr_ok R) {j : Nat} (hj : j < 120) : ∃ b, b < 2 ∧ R 41 j = nI b := by
  rcases hR.2.2.2.1 j hj with h | h
  · exact ⟨0, by decide, h⟩
  · exact ⟨1, by decide, h⟩
set_option maxRecDepth 100000 in
set_option maxHeartbeats 2000000 in
/-- a guest loses what is due: in step with the reference -/
theorem cg_lose {N : Nat} {C S : kb_M} {t : Int32} {g : Nat} (hg : g < 2) (h : ki_J N C S) : kb_E (kb_en kz_Guest_loseAllDue [.inr (some (9 + 5 * g)), .inl t] C) (fun q => q.1 = some (.inl (nI (kr_k S t g (kr_bd S g)))) ∧ ki_J N q.2 (kr_mg S t g (kr_bd S g)) ∧ (∀ k, k ≠ 4 → k ≠ 7 → k ≠ 9 + 5 * g → k ≠ 12 + 5 * g → q.2 k = C k) ∧ q.2 (9 + 5 * g) = upd (C (9 + 5 * g)) 0 (C (9 + 5 * g) 0 + nI (kr_k S t g (kr_bd S g)))) := by
  have hR := h.1
  have hle := (hR.1 g hg).2
  have hbd := (hR.1 g hg).1
  have loop : ∀ (k i : Nat) (w v : Int32) (D : kb_M), i + k = kr_bd S g → w = nI (kr_k S t g i) → v = nI i → ki_J N D (kr_mg S t g i) → (∀ k, k ≠ 4 → k ≠ 7 → k ≠ 12 + 5 * g → D k = C k) → kb_E (kz_Guest_loseAllDue, 4, [some (.inr (some (9 + 5 * g))), some (.inl t), some (.inl w), some (.inl v)], [], D) (fun q => q.1 = some (.inl (nI (kr_k S t g (kr_bd S g)))) ∧ ki_J N q.2 (kr_mg S t g (kr_bd S g)) ∧ (∀ k, k ≠ 4 → k ≠ 7 → k ≠ 9 + 5 * g → k ≠ 12 + 5 * g → q.2 k = C k) ∧ q.2 (9 + 5 * g) = upd (C (9 + 5 * g)) 0 (C (9 + 5 * g) 0 + nI (kr_k S t g (kr_bd S g)))) := by
    intro k
    induction k with
    | zero =>
      intro i w v D hi hw hv hJ hD
      have hi : i = kr_bd S g := by omega
      subst hi; subst hw; subst hv
      have hn : D (9 + 5 * g) 7 = nI (kr_bd S g) := by
        rw [((hJ.2.2.2.2.1 g hg).1), kr_mg_ne _ _ _ _ (by decide) (by decide), hbd]
      have fin : ki_J N (kb_up D (9 + 5 * g) 0 (D (9 + 5 * g) 0 + nI (kr_k S t g (kr_bd S g)))) (kr_mg S t g (kr_bd S g)) := kj_C hJ (fun j h1 h2 h3 h4 h5 => kb_up_ne _ _ _ (by omega)) (fun j hj => by
        by_cases hjg : j = 9 + 5 * g
        · rw [hjg, kb_up_at, pk_un (by decide)]
        · rw [kb_up_ne _ _ _ hjg])
      have e1 : (kb_up D (9 + 5 * g) 0 (D (9 + 5 * g) 0 + nI (kr_k S t g (kr_bd S g)))) (9 + 5 * g) = upd (C (9 + 5 * g)) 0 (C (9 + 5 * g) 0 + nI (kr_k S t g (kr_bd S g))) := by
        rw [kb_up_at, hD (9 + 5 * g) (by omega) (by omega) (by omega)]
      have e2 : ∀ k, k ≠ 4 → k ≠ 7 → k ≠ 9 + 5 * g → k ≠ 12 + 5 * g → (kb_up D (9 + 5 * g) 0 (D (9 + 5 * g) 0 + nI (kr_k S t g (kr_bd S g)))) k = C k := fun k h1 h2 h3 h4 => by
        rw [kb_up_ne _ _ _ h3, hD k h1 h2 h4]
      match g, hg with
      | 0, _ =>
        refine kb_go 60 [4] ?_
        refine And.intro (fun _ => ?_) (fun h => ?_)
        · exact And.intro rfl ⟨rfl, fin, e2, e1⟩
        · have h := of_decide_eq_false h
          rw [show D 9 7 = nI (kr_bd S 0) from hn] at h
          exact absurd (Int32.le_refl _) h
      | 1, _ =>
        refine kb_go 60 [4] ?_
        refine And.intro (fun _ => ?_) (fun h => ?_)
        · exact And.intro rfl ⟨rfl, fin, e2, e1⟩
        · have h := of_decide_eq_false h
          rw [show D 14 7 = nI (kr_bd S 1) from hn] at h
          exact absurd (Int32.le_refl _) h
    | succ k ih =>
      intro i w v D hi hw hv hJ hD
      subst hw; subst hv
      have hin : kb_in (nI i) 60 = true := kb_in_nI (by omega) (by omega)
      have hcl : (nI i).toNatClampNeg = i := nI_clamp (by omega)
      have hG := hJ.2.2.2.2.1 g hg
      have ebd : kr_bd (kr_mg S t g i) g = kr_bd S g := by unfold kr_bd; rw [kr_mg_ne _ _ _ _ (by decide) (by decide)]
      have hn : D (9 + 5 * g) 7 = nI (kr_bd S g) := by
        rw [hG.1, kr_mg_ne _ _ _ _ (by decide) (by decide), hbd]
      obtain ⟨t1, t2, t3⟩ := hG.2.1 i (by rw [ebd]; omega)
      have e42 : kr_mg S t g i 42 (60 * g + i) = S 42 (60 * g + i) := by rw [kr_mg_42, if_neg (by omega)]
      have e43 : kr_mg S t g i 43 = S 43 := kr_mg_ne _ _ _ _ (by decide) (by decide)
      have e41 : kr_mg S t g i 41 = S 41 := kr_mg_ne _ _ _ _ (by decide) (by decide)
      rw [e42] at t2 t3
      rw [e43] at t3
      rw [e41] at t1
      -- not due: nothing happens
      have no : ¬ (S 42 (60 * g + i) = 3 ∧ S 43 (60 * g + i) ≤ t) → ∀ v, v = nI (i + 1) → kb_E (kz_Guest_loseAllDue, 4, [some (.inr (some (9 + 5 * g))), some (.inl t), some (.inl (nI (kr_k S t g i))), some (.inl v)], [], D) (fun q => q.1 = some (.inl (nI (kr_k S t g (kr_bd S g)))) ∧ ki_J N q.2 (kr_mg S t g (kr_bd S g)) ∧ (∀ k, k ≠ 4 → k ≠ 7 → k ≠ 9 + 5 * g → k ≠ 12 + 5 * g → q.2 k = C k) ∧ q.2 (9 + 5 * g) = upd (C (9 + 5 * g)) 0 (C (9 + 5 * g) 0 + nI (kr_k S t g (kr_bd S g)))) := by
        intro hno v hv
        refine ih (i + 1) _ _ D (by omega) ?_ hv (by rw [kr_mg_no hno]; exact hJ) hD
        rw [show kr_k S t g (i + 1) = kr_k S t g i from by show _ + _ = _; rw [if_neg hno]; rfl]
      -- due
      have yes : S 42 (60 * g + i) = 3 ∧ S 43 (60 * g + i) ≤ t → ∃ b r, b < 2 ∧ r < 12 + 12 * b ∧ D (10 + 5 * g) i = nI b ∧ D (11 + 5 * g) i = nI r ∧ ∀ v, v = nI (i + 1) → kb_E (kz_Guest_loseAllDue, 4, [some (.inr (some (9 + 5 * g))), some (.inl t), some (.inl (nI (kr_k S t g i) + 1)), some (.inl v)], [], kb_up (kb_up D (12 + 5 * g) i 1) (4 + 3 * b) r (-1)) (fun q => q.1 = some (.inl (nI (kr_k S t g (kr_bd S g)))) ∧ ki_J N q.2 (kr_mg S t g (kr_bd S g)) ∧ (∀ k, k ≠ 4 → k ≠ 7 → k ≠ 9 + 5 * g → k ≠ 12 + 5 * g → q.2 k = C k) ∧ q.2 (9 + 5 * g) = upd (C (9 + 5 * g)) 0 (C (9 + 5 * g) 0 + nI (kr_k S t g (kr_bd S g)))) := by
        intro hy
        obtain ⟨b, hb, hkb⟩ := kr_kd hR (j := 60 * g + i) (by omega)
        have hlv : 2 ≤ kr_mg S t g i 42 (60 * g + i) := by rw [e42, hy.1]; decide
        obtain ⟨r, r1, r2, r3, -⟩ := hG.2.2.1 i (by rw [ebd]; omega) hlv b hb (by rw [e41]; exact hkb)
        refine ⟨b, r, hb, r1, by rw [t1]; exact hkb, r2, fun v hv => ?_⟩
        have hE := ki_end hJ (s := 1) hg (by rw [ebd]; omega) hlv hb (by rw [e41]; exact hkb) r1 r2 (by decide)
        refine ih (i + 1) _ _ _ (by omega) ?_ hv ?_ (fun k h1 h2 h3 => ?_)
        · rw [show kr_k S t g (i + 1) = kr_k S t g i + 1 from by show _ + _ = _; rw [if_pos hy], nI_succ]
        · rw [kr_mg_yes hy]
          exact kj_R hE (fun k h1 h2 h3 => kb_up_ne _ _ _ h3)
        · rw [kb_up_ne _ _ _ (by omega), kb_up_ne _ _ _ h3, hD k h1 h2 h3]
      have pool : ∀ b r, b < 2 → r < 12 + 12 * b → D (10 + 5 * g) i = nI b → kb_E (kb_en kz_Guest_poolOf [.inr (some (9 + 5 * g)), .inl (nI i)] (kb_up D (12 + 5 * g) i 1)) (fun q => q = (some (.inr (some (3 + 3 * b))), kb_up D (12 + 5 * g) i 1)) ∧ kb_E (kb_en kz_Pool_endBinding [.inr (some (3 + 3 * b)), .inl (nI r)] (kb_up D (12 + 5 * g) i 1)) (fun q => q = (none, kb_up (kb_up D (12 + 5 * g) i 1) (3 + 3 * b + 1) r (-1))) := by
        intro b r hb hr hk
        refine ⟨cg_poolOf (by match g, hg with | 0, _ => exact Or.inl rfl | 1, _ => exact Or.inr rfl) _ (by omega) hb (by rw [kb_up_ne _ _ _ (by omega), show 9 + 5 * g + 1 = 10 + 5 * g by omega]; exact hk), cp_endBinding (kp_b hb) _ hr⟩
      match g, hg with
      | 0, _ =>
        refine kb_go 60 [4] ?_
        refine And.intro (fun h => ?_) (fun _ => ?_)
        · have h := of_decide_eq_true h
          rw [show D 9 7 = nI (kr_bd S 0) from hn, nI_leI (by omega) (by omega)] at h
          omega
        · refine And.intro hin ?_
          refine And.intro (fun h => ?_) (fun h => ?_)
          · have h : ¬ D 12 (nI i).toNatClampNeg = 3 := of_decide_eq_true h
            rw [hcl] at h
            exact no (fun q => h (t2.trans q.1)) _ (nI_succ i).symm
          · have h : D 12 (nI i).toNatClampNeg = 3 := Classical.not_not.mp (of_decide_eq_false h)
            rw [hcl] at h
            have h3 := t2.symm.trans h
            refine And.intro hin ?_
            refine And.intro (fun h2 => ?_) (fun h2 => ?_)
            · have h2 : t < D 13 (nI i).toNatClampNeg := of_decide_eq_true h2
              rw [hcl] at h2
              exact no (fun q => absurd q.2 (Int32.not_le.mpr (by rw [← t3 h3]; exact h2))) _ (nI_succ i).symm
            · have h2 : ¬ t < D 13 (nI i).toNatClampNeg := of_decide_eq_false h2
              rw [hcl] at h2
              obtain ⟨b, r, hb, hr, hk, hres, K⟩ := yes ⟨h3, by rw [← t3 h3]; exact Int32.not_lt.mp h2⟩
              obtain ⟨p1, p2⟩ := pool b r hb hr hk
              refine And.intro hin ?_
              rw [hcl]
              refine kb_E_to p1 ?_
              have e11 : (kb_up D (12 + 5 * 0) i 1) 11 i = nI r := by rw [kb_up_ne _ _ _ (by decide)]; exact hres
              match b, hb with
              | 0, _ =>
                refine And.intro hin ?_
                rw [hcl, e11]
                refine kb_E_to p2 ?_
                exact K _ (nI_succ i).symm
              | 1, _ =>
                refine And.intro hin ?_
                rw [hcl, e11]
                refine kb_E_to p2 ?_
                exact K _ (nI_succ i).symm
      | 1, _ =>
        refine kb_go 60 [4] ?_
        refine And.intro (fun h => ?_) (fun _ => ?_)
        · have h := of_decide_eq_true h
          rw [show D 14 7 = nI (kr_bd S 1) from hn, nI_leI (by omega) (by omega)] at h
          omega
        · refine And.intro hin ?_
          refine And.intro (fun h => ?_) (fun h => ?_)
          · have h : ¬ D 17 (nI i).toNatClampNeg = 3 := of_decide_eq_true h
            rw [hcl] at h
            exact no (fun q => h (t2.trans q.1)) _ (nI_succ i).symm
          · have h : D 17 (nI i).toNatClampNeg = 3 := Classical.not_not.mp (of_decide_eq_false h)
            rw [hcl] at h
            have h3 := t2.symm.trans h
            refine And.intro hin ?_
            refine And.intro (fun h2 => ?_) (fun h2 => ?_)
            · have h2 : t < D 18 (nI i).toNatClampNeg := of_decide_eq_true h2
              rw [hcl] at h2
              exact no (fun q => absurd q.2 (Int32.not_le.mpr (by rw [← t3 h3]; exact h2))) _ (nI_succ i).symm
            · have h2 : ¬ t < D 18 (nI i).toNatClampNeg := of_decide_eq_false h2
              rw [hcl] at h2
              obtain ⟨b, r, hb, hr, hk, hres, K⟩ := yes ⟨h3, by rw [← t3 h3]; exact Int32.not_lt.mp h2⟩
              obtain ⟨p1, p2⟩ := pool b r hb hr hk
              refine And.intro hin ?_
              rw [hcl]
              refine kb_E_to p1 ?_
              have e11 : (kb_up D (12 + 5 * 1) i 1) 16 i = nI r := by rw [kb_up_ne _ _ _ (by decide)]; exact hres
              match b, hb with
              | 0, _ =>
                refine And.intro hin ?_
                rw [hcl, e11]
                refine kb_E_to p2 ?_
                exact K _ (nI_succ i).symm
              | 1, _ =>
                refine And.intro hin ?_
                rw [hcl, e11]
                refine kb_E_to p2 ?_
                exact K _ (nI_succ i).symm
  have h0 := loop (kr_bd S g) 0 0 0 C (by omega) rfl rfl (by rw [kr_mg_0]; exact h) (fun _ _ _ _ => rfl)
  match g, hg with
  | 0, _ => exact kb_go 20 [4] h0
  | 1, _ => exact kb_go 20 [4] h0
