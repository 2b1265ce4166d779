/-! erase: the walks -/
theorem kl_7_eq {C F : kb_M} {a f : Nat} (h7 : F 7 = C 7) (h21 : F (21 + 7 * a) = C (21 + 7 * a)) : ∀ n, kl_7 F a f n = kl_7 C a f n := by
  intro n
  induction n with
  | zero => exact h7
  | succ n ih =>
    show upd (kl_7 F a f n) (F (21 + 7 * a) (6 * f + n)).toNatClampNeg (-1) = upd (kl_7 C a f n) (C (21 + 7 * a) (6 * f + n)).toNatClampNeg (-1)
    rw [ih, h21]
theorem kl_21_eq {C F : kb_M} {a f : Nat} (h21 : F (21 + 7 * a) = C (21 + 7 * a)) (n : Nat) : kl_21 F a f n = kl_21 C a f n := by
  funext q
  rw [kl_21_at, kl_21_at, h21]
theorem kr_er_34 (R : kb_M) (a f : Nat) : ∀ n, (kr_er R a f n) 34 = R 34 := by
  intro n
  induction n with
  | zero => rfl
  | succ n ih =>
    unfold kr_er
    cases hl : kr_fi (kr_er R a f n) a (nI (6 * f + n)) (kr_fr (kr_er R a f n) a) with
    | none => exact ih
    | some j =>
      show (kr_rm (kr_er R a f n) a j) 34 = R 34
      rw [(kr_rm_rows _ _ _).1 34 (by decide) (by decide) (by decide)]
      exact ih
theorem kr_er_n (R : kb_M) (a f n : Nat) (h : kr_fi (kr_er R a f n) a (nI (6 * f + n)) (kr_fr (kr_er R a f n) a) = none) : kr_er R a f (n + 1) = kr_er R a f n := by
  show (match kr_fi (kr_er R a f n) a (nI (6 * f + n)) (kr_fr (kr_er R a f n) a) with
    | none => kr_er R a f n
    | some j => kr_rm (kr_er R a f n) a j) = _
  rw [h]
theorem kr_er_s (R : kb_M) (a f n j : Nat) (h : kr_fi (kr_er R a f n) a (nI (6 * f + n)) (kr_fr (kr_er R a f n) a) = some j) : kr_er R a f (n + 1) = kr_rm (kr_er R a f n) a j := by
  show (match kr_fi (kr_er R a f n) a (nI (6 * f + n)) (kr_fr (kr_er R a f n) a) with
    | none => kr_er R a f n
    | some j => kr_rm (kr_er R a f n) a j) = _
  rw [h]
set_option maxRecDepth 100000 in
theorem cq_drop0 {a q w : Nat} (ha : a < 2) (hq : q < 36) (hw : w < 24) (E : kb_M) (hb : E (21 + 7 * a) q = nI w) (hs : ka_so E (19 + 7 * a) (nI q) = none) : kb_E (kb_en kz_App_dropPart [.inr (some (19 + 7 * a)), .inl (nI q)] E) (fun t => t = (none, kb_up (kb_up E 7 w (-1)) (21 + 7 * a) q (-1))) := by
  have S := cq_slotOf (kq_in ha) E (nI q)
  rw [hs] at S
  have hcl : (nI q).toNatClampNeg = q := nI_clamp (by omega)
  have G := cp_endBinding (Or.inr ⟨rfl, rfl⟩ : kp_P 6 24) E hw
  have e : E (21 + 7 * a) (nI q).toNatClampNeg = nI w := by rw [hcl]; exact hb
  rw [← e] at G
  have ha01 : a = 0 ∨ a = 1 := by omega
  rcases ha01 with rfl | rfl
  all_goals
    refine kb_go 60 [] ?_
    refine kb_E_to S ?_
    refine And.intro (kb_in_nI (by omega) (by omega)) ?_
    refine kb_E_to G ?_
    refine And.intro (kb_in_nI (by omega) (by omega)) (And.intro rfl ?_)
    rw [hcl]
    rfl
set_option maxRecDepth 100000 in
theorem cq_drop1 {a q w s r : Nat} (ha : a < 2) (hq : q < 36) (hw : w < 24) (hs3 : s < 3) (hr : r < 12) (E : kb_M) (hb : E (21 + 7 * a) q = nI w) (hs : ka_so E (19 + 7 * a) (nI q) = some (23 + 7 * a + s)) (hf : E (23 + 7 * a + s) 0 = nI r) : kb_E (kb_en kz_App_dropPart [.inr (some (19 + 7 * a)), .inl (nI q)] E) (fun t => t = (none, kb_up (kb_up (ka_gf E (23 + 7 * a + s) r) 7 w (-1)) (21 + 7 * a) q (-1))) := by
  have S := cq_slotOf (kq_in ha) E (nI q)
  rw [hs] at S
  have hcl : (nI q).toNatClampNeg = q := nI_clamp (by omega)
  have F := cq_giveFrameBack (kq_in ha) (by unfold kq_S; omega : kq_S (19 + 7 * a) (23 + 7 * a + s)) E hr hf
  have dn : ∀ k, k ≠ 4 → k ≠ 23 + 7 * a + s → (ka_gf E (23 + 7 * a + s) r) k = E k := fun k q1 q2 => by unfold ka_gf; rw [kb_up_ne _ _ _ q2, kb_up_ne _ _ _ q2, kb_up_ne _ _ _ q2, kb_up_ne _ _ _ q1]
  have hb2 : (ka_gf E (23 + 7 * a + s) r) (21 + 7 * a) q = nI w := by rw [dn _ (by omega) (by omega)]; exact hb
  generalize ka_gf E (23 + 7 * a + s) r = M at *
  have G := cp_endBinding (Or.inr ⟨rfl, rfl⟩ : kp_P 6 24) M hw
  have e : M (21 + 7 * a) (nI q).toNatClampNeg = nI w := by rw [hcl]; exact hb2
  rw [← e] at G
  have ha01 : a = 0 ∨ a = 1 := by omega
  rcases ha01 with rfl | rfl
  all_goals
    refine kb_go 60 [] ?_
    refine kb_E_to S ?_
    refine kb_E_to F ?_
    refine And.intro (kb_in_nI (by omega) (by omega)) ?_
    refine kb_E_to G ?_
    refine And.intro (kb_in_nI (by omega) (by omega)) (And.intro rfl ?_)
    rw [hcl]
    rfl
