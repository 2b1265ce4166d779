/-! erase: a part is dropped, the file is emptied -/
theorem kz_drop {N B : Nat} {C R S : kb_M} (h : ki_Z N B C R) {a : Nat} (ha : a < 2) {L : List Nat} (hL : ki_B C R a L) {j s r f p w : Nat} (hj : L[j]? = some s) (hr : r < 12) (hfr : C (23 + 7 * a + s) 0 = nI r) (hf : f < 6) (hp : p < 6) (hpt : C (23 + 7 * a + s) 1 = nI (6 * f + p)) (hw : w < 24) (hb : C (21 + 7 * a) (6 * f + p) = nI w) (tn : ∀ k, k ≠ 34 → S k = (kr_rm R a j) k) (t34 : ∀ i, S 34 i = if 144 * a + 24 * f + 4 * p ≤ i ∧ i < 144 * a + 24 * f + 4 * p + 4 then C 8 (4 * w + (i - (144 * a + 24 * f + 4 * p))) else R 34 i) : ki_Z N B (ka_gf C (23 + 7 * a + s) r) S ∧ ki_B (ka_gf C (23 + 7 * a + s) r) S a (L.eraseIdx j) := by
  obtain ⟨J, hB⟩ := ka_drop h.1 ha hL hj hr hfr hf hp hpt hw hb tn t34
  have hs3 := hL.2.2.1 s (List.mem_of_getElem? hj)
  have dn : ∀ k, k ≠ 4 → k ≠ 23 + 7 * a + s → (ka_gf C (23 + 7 * a + s) r) k = C k := fun k q1 q2 => by unfold ka_gf; rw [kb_up_ne _ _ _ q2, kb_up_ne _ _ _ q2, kb_up_ne _ _ _ q2, kb_up_ne _ _ _ q1]
  obtain ⟨sn, -, -, -⟩ := kr_rm_rows R a j
  have sn : ∀ k, k ≠ 34 → k ≠ 36 → k ≠ 37 → k ≠ 38 → S k = R k := fun k k0 k1 k2 k3 => (tn k k0).trans (sn k k1 k2 k3)
  have s33 := sn 33 (by decide) (by decide) (by decide) (by decide)
  obtain ⟨x0, x1⟩ := h.2.2.2.2
  have e19 := dn 19 (by omega) (by omega)
  have e26 := dn 26 (by omega) (by omega)
  exact ⟨kz_cnt h J (dn 1 (by omega) (by omega)) (dn 3 (by omega) (by omega)) (dn 6 (by omega) (by omega)) (fun k q1 q2 => dn k (by omega) (by omega)) (by rw [e19]) (by rw [e26]) (by rw [e19, e26, s33]; exact x0) (by rw [e19, e26, s33]; exact x1) (by rw [s33]) (sn 39 (by decide) (by decide) (by decide) (by decide)) (sn 40 (by decide) (by decide) (by decide) (by decide)) (sn 42 (by decide) (by decide) (by decide) (by decide)) (sn 43 (by decide) (by decide) (by decide) (by decide)), hB⟩
/-- who holds the blocks, and the blocks of the parts, once the first n parts of file f are dropped -/
def kl_7 (C : kb_M) (a f : Nat) : Nat → Nat → Int32
  | 0 => C 7
  | n + 1 => upd (kl_7 C a f n) (C (21 + 7 * a) (6 * f + n)).toNatClampNeg (-1)
def kl_21 (C : kb_M) (a f : Nat) : Nat → Nat → Int32
  | 0 => C (21 + 7 * a)
  | n + 1 => upd (kl_21 C a f n) (6 * f + n) (-1)
theorem kl_21_at (C : kb_M) (a f : Nat) : ∀ n q, kl_21 C a f n q = if 6 * f ≤ q ∧ q < 6 * f + n then -1 else C (21 + 7 * a) q := by
  intro n
  induction n with
  | zero => intro q; rw [if_neg (by omega)]; rfl
  | succ n ih =>
    intro q
    show upd (kl_21 C a f n) (6 * f + n) (-1) q = _
    by_cases hq : q = 6 * f + n
    · rw [hq, pk_us, if_pos (by omega)]
    · rw [pk_un hq, ih q]
      by_cases hr : 6 * f ≤ q ∧ q < 6 * f + n
      · rw [if_pos hr, if_pos (by omega)]
      · rw [if_neg hr, if_neg (by omega)]
theorem kl_7_at (C : kb_M) (a f : Nat) (w : Nat) : ∀ n, (∃ p, p < n ∧ (C (21 + 7 * a) (6 * f + p)).toNatClampNeg = w ∧ kl_7 C a f n w = -1) ∨ ((∀ p, p < n → (C (21 + 7 * a) (6 * f + p)).toNatClampNeg ≠ w) ∧ kl_7 C a f n w = C 7 w) := by
  intro n
  induction n with
  | zero => exact Or.inr ⟨fun p hp => absurd hp (by omega), rfl⟩
  | succ n ih =>
    have e : kl_7 C a f (n + 1) = upd (kl_7 C a f n) (C (21 + 7 * a) (6 * f + n)).toNatClampNeg (-1) := rfl
    by_cases hq : (C (21 + 7 * a) (6 * f + n)).toNatClampNeg = w
    · exact Or.inl ⟨n, by omega, hq, by rw [e, ← hq, pk_us]⟩
    · rw [e, pk_un (fun q => hq q.symm)]
      rcases ih with ⟨p, p1, p2, p3⟩ | ⟨p1, p2⟩
      · exact Or.inl ⟨p, by omega, p2, p3⟩
      · refine Or.inr ⟨fun p hp => ?_, p2⟩
        by_cases hpn : p = n
        · rw [hpn]; exact hq
        · exact p1 p (by omega)
theorem kl_7_c {C : kb_M} {a f m : Nat} (ha : a < 2) (hb : ∀ p, p < m → ∃ r, r < 24 ∧ C (21 + 7 * a) (6 * f + p) = nI r ∧ C 7 r = nI a) (hi : ∀ p q, p < m → q < m → C (21 + 7 * a) (6 * f + p) = C (21 + 7 * a) (6 * f + q) → p = q) {e : Nat} (he : e < 4) : ∀ n, n ≤ m → kp_c (kl_7 C a f n) (nI e) 24 + (if e = a then n else 0) = kp_c (C 7) (nI e) 24 := by
  intro n
  induction n with
  | zero =>
    intro _
    show kp_c (C 7) (nI e) 24 + _ = _
    split <;> rfl
  | succ n ih =>
    intro hn
    have ih := ih (by omega)
    obtain ⟨r, r1, r2, r3⟩ := hb n (by omega)
    have er : (C (21 + 7 * a) (6 * f + n)).toNatClampNeg = r := by rw [r2, nI_clamp (by omega)]
    have e7 : kl_7 C a f n r = nI a := by
      rcases kl_7_at C a f r n with ⟨p, p1, p2, -⟩ | ⟨-, p2⟩
      · obtain ⟨r', t1, t2, -⟩ := hb p (by omega)
        rw [t2, nI_clamp (by omega)] at p2
        have := hi p n (by omega) (by omega) (by rw [t2, r2, p2])
        omega
      · rw [p2]; exact r3
    have u := kp_c_upd (f := kl_7 C a f n) (r := r) (x := -1) (e := nI e) 24 r1
    rw [e7, if_neg (show ¬ (-1 : Int32) = nI e from fun q => nI_m1 (a := e) (by omega) q.symm)] at u
    show kp_c (upd (kl_7 C a f n) (C (21 + 7 * a) (6 * f + n)).toNatClampNeg (-1)) (nI e) 24 + _ = _
    rw [er]
    by_cases hea : e = a
    · rw [if_pos hea] at ih ⊢
      rw [if_pos (by rw [hea])] at u
      omega
    · rw [if_neg hea] at ih ⊢
      rw [if_neg (nI_ne (by omega) (by omega) (fun q => hea q.symm))] at u
      omega
