/-! the reference's words (row 34) have no say in what is opened -/
theorem kc_ro (R : kb_M) (g : Nat → Int32) {k : Nat} (f : Nat → Int32) (h : k ≠ 34) : kb_ro (kb_ro R 34 g) k f = kb_ro (kb_ro R k f) 34 g := by
  funext q
  unfold kb_ro
  by_cases h1 : q = k
  · rw [if_pos h1, if_neg (by omega), if_pos h1]
  · rw [if_neg h1]
    by_cases h2 : q = 34
    · rw [if_pos h2, if_pos h2]
    · rw [if_neg h2, if_neg h2, if_neg h1]
theorem kc_up (R : kb_M) (g : Nat → Int32) {k : Nat} (i : Nat) (x : Int32) (h : k ≠ 34) : kb_up (kb_ro R 34 g) k i x = kb_ro (kb_up R k i x) 34 g := by
  unfold kb_up
  rw [kb_ro_ne _ _ h, kc_ro _ _ _ h]
theorem kc_l (R : kb_M) (g : Nat → Int32) (d : Nat) (b : Int32) (n : Nat) : kr_l (kb_ro R 34 g) d b n = kr_l R d b n := kr_l_eq n (fun _ _ => ⟨rfl, Iff.rfl⟩)
theorem kc_c (R : kb_M) (g : Nat → Int32) (e b : Nat) : kr_c (kb_ro R 34 g) e b = kr_c R e b := by
  unfold kr_c
  rw [kc_l, kr_b_eq (R := R) (S := kb_ro R 34 g) rfl]
  rfl
theorem kc_f (R : kb_M) (g : Nat → Int32) (b : Nat) : kr_f (kb_ro R 34 g) b = kr_f R b := by
  unfold kr_f
  rw [kc_c, kc_c, kc_c, kc_c]
theorem kc_e1 (R : kb_M) (g : Nat → Int32) (d : Nat) (b v : Int32) (n : Nat) : kr_e1 (kb_ro R 34 g) d b v n = kr_e1 R d b v n := by
  induction n with
  | zero => rfl
  | succ n ih =>
    unfold kr_e1
    rw [ih]
    rfl
theorem kc_e (R : kb_M) (g : Nat → Int32) (b : Int32) : kr_e (kb_ro R 34 g) b = kr_e R b := by
  unfold kr_e
  rw [kc_e1, kc_e1]
  rfl
theorem kc_la (R : kb_M) (g : Nat → Int32) (d : Nat) (b : Int32) (n : Nat) : kr_la (kb_ro R 34 g) d b n = kr_la R d b n := by
  induction n with
  | zero => rfl
  | succ n ih =>
    unfold kr_la
    rw [ih]
    rfl
theorem kc_ri (R : kb_M) (g : Nat → Int32) (b : Int32) : kr_ri (kb_ro R 34 g) b = kr_ri R b := by
  unfold kr_ri
  rw [kc_l, kc_l]
  rfl
theorem kc_mk (R : kb_M) (g : Nat → Int32) (j : Nat) : kr_mk (kb_ro R 34 g) j = kb_ro (kr_mk R j) 34 g := by
  unfold kr_mk
  rw [kc_up _ _ _ _ (by decide), kc_up _ _ _ _ (by decide), kb_ro_ne _ _ (by decide)]
theorem kc_wi (R : kb_M) (g : Nat → Int32) (b : Int32) : kr_wi (kb_ro R 34 g) b = kb_ro (kr_wi R b) 34 g := by
  unfold kr_wi
  rw [kc_e, kc_ri, kc_la, show kr_bd (kb_ro R 34 g) (kr_ri R b) = kr_bd R (kr_ri R b) from rfl]
  by_cases h : kr_e R b < 0
  · rw [if_pos h, if_pos h]
    cases kr_la R (kr_ri R b) b (kr_bd R (kr_ri R b)) with
    | none => rfl
    | some t => exact kc_mk R g _
  · rw [if_neg h, if_neg h]
theorem kc_mg (R : kb_M) (g : Nat → Int32) (t : Int32) (d n : Nat) : kr_mg (kb_ro R 34 g) t d n = kb_ro (kr_mg R t d n) 34 g := by
  unfold kr_mg
  rw [kr_k_eq (R := R) (S := kb_ro R 34 g) n (fun _ _ _ => ⟨rfl, rfl⟩), kb_ro_ne (j := 42) _ _ (by decide), kb_ro_ne (j := 40) _ _ (by decide), kb_ro_ne (j := 43) _ _ (by decide), kc_ro _ _ _ (by decide), kc_ro _ _ _ (by decide)]
theorem kc_mv (R : kb_M) (g : Nat → Int32) (t : Int32) : kr_mv (kb_ro R 34 g) t = kb_ro (kr_mv R t) 34 g := by
  unfold kr_mv kr_m0
  rw [kc_up _ _ _ _ (by decide), kc_mg, kc_mg]
  rfl
theorem kc_cm (R : kb_M) (g : Nat → Int32) (b : Nat) : kr_cm (kb_ro R 34 g) b = kb_ro (kr_cm R b) 34 g := by
  unfold kr_cm
  rw [kc_f, kc_wi, kc_e, kc_mv]
  by_cases h : kr_f R b = 0
  · rw [if_pos h, if_pos h]
  · rw [if_neg h, if_neg h]
theorem kc_rm (R : kb_M) (g : Nat → Int32) (a j : Nat) : kr_rm (kb_ro R 34 g) a j = kb_ro (kr_rm R a j) 34 g := by
  unfold kr_rm kr_ri1
  rw [kb_ro_ne (j := 36) _ _ (by decide), kb_ro_ne (j := 37) _ _ (by decide), kc_ro _ _ _ (by decide), kc_ro _ _ _ (by decide), kc_up _ _ _ _ (by decide)]
  rfl
theorem kc_so (R : kb_M) (g : Nat → Int32) (j : Nat) : kr_so (kb_ro R 34 g) j = kb_ro (kr_so R j) 34 g := by
  unfold kr_so
  rw [kb_ro_ne (j := 33) _ _ (by decide), kb_ro_ne (j := 37) _ _ (by decide), kc_up _ _ _ _ (by decide), kc_up _ _ _ _ (by decide)]
theorem kc_ad (R : kb_M) (g : Nat → Int32) (a : Nat) (p d : Int32) : kr_ad (kb_ro R 34 g) a p d = kb_ro (kr_ad R a p d) 34 g := by
  unfold kr_ad
  rw [kb_ro_ne (j := 38) _ _ (by decide), kc_up _ _ _ _ (by decide), kc_up _ _ _ _ (by decide), kc_up _ _ _ _ (by decide)]
  rfl
theorem kc_o2 (R : kb_M) (g : Nat → Int32) (a : Nat) : kr_o2 (kb_ro R 34 g) a = kb_ro (kr_o2 R a) 34 g := by
  have h1 : kr_o1 (kb_ro R 34 g) a = kb_ro (kr_o1 R a) 34 g := by
    unfold kr_o1
    rw [show kr_fr (kb_ro R 34 g) a = kr_fr R a from rfl, kc_so, kc_rm, kc_cm]
    by_cases h : kr_fr R a = 3
    · rw [if_pos h, if_pos h]
    · rw [if_neg h, if_neg h]
  unfold kr_o2
  rw [h1, kb_ro_ne (j := 33) _ _ (by decide), kc_up _ _ _ _ (by decide)]
theorem kr_fi_eq {R S : kb_M} (h : S 36 = R 36) (a : Nat) (p : Int32) (n : Nat) : kr_fi S a p n = kr_fi R a p n := by
  induction n with
  | zero => rfl
  | succ n ih =>
    unfold kr_fi
    rw [ih, h]
theorem kc_op (R : kb_M) (g : Nat → Int32) (a p : Nat) : kr_op (kb_ro R 34 g) a p = kb_ro (kr_op R a p) 34 g := by
  unfold kr_op
  rw [kr_fi_eq (R := R) (S := kb_ro R 34 g) rfl, show kr_fr (kb_ro R 34 g) a = kr_fr R a from rfl]
  cases kr_fi R a (nI p) (kr_fr R a) with
  | none =>
    show kr_ad (kr_o2 (kb_ro R 34 g) a) a (nI p) 0 = kb_ro (kr_ad (kr_o2 R a) a (nI p) 0) 34 g
    rw [kc_o2, kc_ad]
  | some j =>
    show kr_ad (kr_rm (kb_ro R 34 g) a j) a (nI p) (R 37 (3 * a + j)) = kb_ro (kr_ad (kr_rm R a j) a (nI p) (R 37 (3 * a + j))) 34 g
    rw [kc_rm, kc_ad]
/-- the word that is then written was of no account -/
theorem kc_ch (R : kb_M) (a f i : Nat) (x w : Int32) : kr_ch (kb_up R 34 (144 * a + 24 * f + i) x) a f i w = kr_ch R a f i w := by
  unfold kr_ch
  rw [show kb_up R 34 (144 * a + 24 * f + i) x = kb_ro R 34 (upd (R 34) (144 * a + 24 * f + i) x) from rfl, kc_op]
  generalize hS : kr_op R a (6 * f + i / 4) = S
  have e34 : S 34 = R 34 := by rw [← hS]; exact kr_op_ne _ _ _ (Or.inl rfl)
  have e : kb_up (kb_ro S 34 (upd (R 34) (144 * a + 24 * f + i) x)) 34 (144 * a + 24 * f + i) w = kb_up S 34 (144 * a + 24 * f + i) w := by
    funext k q
    by_cases hk : k = 34
    · rw [hk, kb_up_at, kb_up_at, kb_ro_at, e34]
      by_cases hq : q = 144 * a + 24 * f + i
      · rw [hq, pk_us, pk_us]
      · rw [pk_un hq, pk_un hq, pk_un hq]
    · rw [kb_up_ne _ _ _ hk, kb_up_ne _ _ _ hk, kb_ro_ne _ _ hk]
  rw [e]
  rfl
