/-! the memory behind both constructors -/
def kst_M : kb_M := fun k => match k with
  | 3 => fun _ => 3
  | 6 => fun _ => 6
  | 4 => fun j => if j < 12 then -1 else 0
  | 7 => fun j => if j < 24 then -1 else 0
  | 21 => fun j => if j < 36 then -1 else 0
  | 28 => fun j => if j < 36 then -1 else 0
  | 23 => fun f => match f with | 0 => -1 | 1 => -1 | _ => 0
  | 24 => fun f => match f with | 0 => -1 | 1 => -1 | _ => 0
  | 25 => fun f => match f with | 0 => -1 | 1 => -1 | _ => 0
  | 30 => fun f => match f with | 0 => -1 | 1 => -1 | _ => 0
  | 31 => fun f => match f with | 0 => -1 | 1 => -1 | _ => 0
  | 32 => fun f => match f with | 0 => -1 | 1 => -1 | _ => 0
  | 26 => fun f => match f with | 3 => 1 | _ => 0
  | _ => fun _ => 0
def kst_ad (h0 h1 : Nat) (u v : Nat → Nat) : Nat → Nat := fun k => [h0, u 0, u 1, u 2, u 3, u 4, u 5, u 6, u 7, u 8, u 9, u 10, u 11, u 12, u 13, u 14, u 15, u 16, u 17, u 18, u 19, u 20, u 21, u 22, u 23, u 24, u 25, u 26, u 27, u 28, u 29, u 30, u 31, h1, v 0, v 1, v 2, v 3, v 4, v 5, v 6, v 7, v 8, v 9, v 10].getD k 0
def kst_L (cA : Nat → ClassId) (h0 h1 : Nat) (u v : Nat → Nat) : va_W := [(h0, .inr (0, [.ref (u 0), .ref (u 1)])), ((u 0), .inr (1, [.int 0, .ref (u 2), .ref (u 5), .ref (u 8), .ref (u 13)])), ((u 1), .inl (cA 3, 2, .inr (.inr (.inr (.inr (fun j => [some (u 18), some (u 25)].getD j none)))))), ((u 2), .inr (2, [.int 3, .ref (u 3), .ref (u 4)])), ((u 3), .inl (cA 0, 12, .inl (fun j => if j < 12 then (-1) else 0))), ((u 4), .inl (cA 0, 48, .inl (fun _ => 0))), ((u 5), .inr (2, [.int 6, .ref (u 6), .ref (u 7)])), ((u 6), .inl (cA 0, 24, .inl (fun j => if j < 24 then (-1) else 0))), ((u 7), .inl (cA 0, 96, .inl (fun _ => 0))), ((u 8), .inr (3, [.int 0, .ref (u 2), .ref (u 5), .ref (u 9), .ref (u 10), .ref (u 11), .ref (u 12), .int 0])), ((u 9), .inl (cA 1, 60, .inl (fun _ => 0))), ((u 10), .inl (cA 0, 60, .inl (fun _ => 0))), ((u 11), .inl (cA 0, 60, .inl (fun _ => 0))), ((u 12), .inl (cA 0, 60, .inl (fun _ => 0))), ((u 13), .inr (3, [.int 0, .ref (u 2), .ref (u 5), .ref (u 14), .ref (u 15), .ref (u 16), .ref (u 17), .int 0])), ((u 14), .inl (cA 1, 60, .inl (fun _ => 0))), ((u 15), .inl (cA 0, 60, .inl (fun _ => 0))), ((u 16), .inl (cA 0, 60, .inl (fun _ => 0))), ((u 17), .inl (cA 0, 60, .inl (fun _ => 0))), ((u 18), .inr (4, [.int 0, .int 0, .ref (u 0), .int 0, .ref (u 19), .ref (u 20), .ref (u 21), .int 0])), ((u 19), .inl (cA 0, 6, .inl (fun _ => 0))), ((u 20), .inl (cA 0, 36, .inl (fun j => if j < 36 then (-1) else 0))), ((u 21), .inl (cA 2, 3, .inr (.inr (.inr (.inr (fun j => [some (u 22), some (u 23), some (u 24)].getD j none)))))), ((u 22), .inr (5, [.int (-1), .int (-1), .int 0, .int 0])), ((u 23), .inr (5, [.int (-1), .int (-1), .int 0, .int 0])), ((u 24), .inr (5, [.int (-1), .int (-1), .int 0, .int 0])), ((u 25), .inr (4, [.int 0, .int 0, .ref (u 0), .int 1, .ref (u 26), .ref (u 27), .ref (u 28), .int 0])), ((u 26), .inl (cA 0, 6, .inl (fun _ => 0))), ((u 27), .inl (cA 0, 36, .inl (fun j => if j < 36 then (-1) else 0))), ((u 28), .inl (cA 2, 3, .inr (.inr (.inr (.inr (fun j => [some (u 29), some (u 30), some (u 31)].getD j none)))))), ((u 29), .inr (5, [.int (-1), .int (-1), .int 0, .int 0])), ((u 30), .inr (5, [.int (-1), .int (-1), .int 0, .int 0])), ((u 31), .inr (5, [.int (-1), .int (-1), .int 0, .int 0])), (h1, .inr (6, [.int 0, .int 0, .int 0, .ref (v 0), .ref (v 1), .ref (v 2), .ref (v 3), .ref (v 4), .ref (v 5), .ref (v 6), .ref (v 7), .ref (v 8), .ref (v 9), .ref (v 10)])), ((v 0), .inl (cA 0, 288, .inl (fun _ => 0))), ((v 1), .inl (cA 0, 12, .inl (fun _ => 0))), ((v 2), .inl (cA 0, 6, .inl (fun _ => 0))), ((v 3), .inl (cA 1, 6, .inl (fun _ => 0))), ((v 4), .inl (cA 0, 2, .inl (fun _ => 0))), ((v 5), .inl (cA 0, 2, .inl (fun _ => 0))), ((v 6), .inl (cA 0, 2, .inl (fun _ => 0))), ((v 7), .inl (cA 1, 120, .inl (fun _ => 0))), ((v 8), .inl (cA 0, 120, .inl (fun _ => 0))), ((v 9), .inl (cA 0, 120, .inl (fun _ => 0))), ((v 10), .inl (cA 0, 480, .inl (fun _ => 0)))]
set_option maxRecDepth 100000 in
theorem kst_w (cA : Nat → ClassId) (h0 h1 : Nat) (u v : Nat → Nat) : kb_w (kst_ad h0 h1 u v) cA kst_M = kst_L cA h0 h1 u v := by
  have e2 : (fun j => (([some 19, some 26] : List (Option Nat)).getD j none).map (kst_ad h0 h1 u v)) = (fun j => [some (u 18), some (u 25)].getD j none) := kn_getD (kst_ad h0 h1 u v) _
  have e22 : (fun j => (([some 23, some 24, some 25] : List (Option Nat)).getD j none).map (kst_ad h0 h1 u v)) = (fun j => [some (u 22), some (u 23), some (u 24)].getD j none) := kn_getD (kst_ad h0 h1 u v) _
  have e29 : (fun j => (([some 30, some 31, some 32] : List (Option Nat)).getD j none).map (kst_ad h0 h1 u v)) = (fun j => [some (u 29), some (u 30), some (u 31)].getD j none) := kn_getD (kst_ad h0 h1 u v) _
  unfold kst_L
  rw [← e2, ← e22, ← e29]
  rfl
theorem kst_c0 (f : Nat → Int32) (e : Int32) : ∀ n, (∀ r, r < n → f r ≠ e) → kp_c f e n = 0 := by
  intro n
  induction n with
  | zero => intro _; rfl
  | succ n ih =>
    intro h
    unfold kp_c
    rw [ih (fun r hr => h r (by omega)), if_neg (h n (by omega))]
theorem kst_4 {r : Nat} (h : r < 12) : kst_M 4 r = -1 := if_pos h
theorem kst_7 {r : Nat} (h : r < 24) : kst_M 7 r = -1 := if_pos h
theorem kst_h {b r : Nat} (hb : b < 2) (hr : r < 12 + 12 * b) : kst_M (4 + 3 * b) r = -1 := by
  match b, hb with
  | 0, _ => exact kst_4 (by omega)
  | 1, _ => exact kst_7 (by omega)
theorem kst_p {a q : Nat} (ha : a < 2) (hq : q < 36) : kst_M (21 + 7 * a) q = -1 := by
  match a, ha with
  | 0, _ => exact if_pos hq
  | 1, _ => exact if_pos hq
theorem kst_s {a s : Nat} (ha : a < 2) (hs : s < 3) : kst_M (23 + 7 * a + s) 0 = -1 ∧ kst_M (23 + 7 * a + s) 1 = -1 ∧ kst_M (23 + 7 * a + s) 3 = 0 := by
  match a, ha, s, hs with
  | 0, _, 0, _ => exact ⟨rfl, rfl, rfl⟩
  | 0, _, 1, _ => exact ⟨rfl, rfl, rfl⟩
  | 0, _, 2, _ => exact ⟨rfl, rfl, rfl⟩
  | 1, _, 0, _ => exact ⟨rfl, rfl, rfl⟩
  | 1, _, 1, _ => exact ⟨rfl, rfl, rfl⟩
  | 1, _, 2, _ => exact ⟨rfl, rfl, rfl⟩
theorem kst_sz (j : Nat) : kr_sz kst_M j = 0 := rfl
theorem kst_fr (a : Nat) : kr_fr kst_M a = 0 := rfl
theorem kst_bd (g : Nat) : kr_bd kst_M g = 0 := rfl
theorem kst_b (a : Nat) : ∀ n, kr_b kst_M a n = 0 := by
  intro n
  induction n with
  | zero => rfl
  | succ n ih => unfold kr_b; rw [ih, kst_sz]
theorem kst_kc (e b : Nat) : kr_c kst_M e b = 0 := by
  unfold kr_c
  by_cases h1 : e < 2
  · rw [if_pos h1]
    by_cases h2 : b = 0
    · rw [if_pos h2]; exact kst_fr e
    · rw [if_neg h2]; exact kst_b e 6
  · rw [if_neg h1, kst_bd]
    rfl
theorem kst_V : ki_V 0 kst_M kst_M := by
  refine ⟨⟨⟨fun g _ => ⟨rfl, by rw [kst_bd]; omega⟩, fun j _ => ⟨rfl, by rw [kst_sz]; omega⟩, fun a _ => ⟨rfl, by rw [kst_fr]; omega⟩, fun j _ => Or.inl rfl, fun j _ => Or.inl rfl⟩, fun j _ => ⟨0, by omega, rfl⟩, fun b hb r hr => Or.inl (kst_h hb hr), fun b hb e he => ?_, fun g hg => ?_, fun a ha => ?_⟩, ⟨0, rfl, by omega, fun g t hg ht => ?_⟩, ⟨rfl, rfl, rfl, rfl, rfl⟩, fun g hg => ?_, ⟨rfl, rfl⟩⟩
  · rw [kst_kc]
    exact kst_c0 _ _ _ (fun r hr => by rw [kst_h hb hr]; exact fun q => nI_m1 (by omega) q.symm)
  · refine ⟨?_, fun t ht => ?_, fun t ht => ?_, fun t u ht => ?_⟩
    · match g, hg with
      | 0, _ => rfl
      | 1, _ => rfl
    · rw [kst_bd] at ht; omega
    · rw [kst_bd] at ht; omega
    · rw [kst_bd] at ht; omega
  · refine ⟨⟨fun f hf => ?_, by rw [kst_b]; omega⟩, ⟨0, ?_, by omega⟩, ⟨fun f p hf hp hlt => ?_, fun f p hf hp _ => kst_p ha (by omega), fun i j hi hj hne => absurd (kst_p ha hi) hne⟩, ⟨[], rfl, List.nodup_nil, fun s hs => (by cases hs), fun s hs _ => kst_s ha hs, fun j s hj => (by simp at hj), fun j i s z _ hj => (by simp at hj)⟩, fun f i r hf hi => ?_⟩
    · match a, ha with
      | 0, _ => rfl
      | 1, _ => rfl
    · match a, ha with
      | 0, _ => rfl
      | 1, _ => rfl
    · rw [kst_sz] at hlt; omega
    · rw [kst_sz] at hi; omega
  · rw [kst_bd] at ht; omega
  · match g, hg with
    | 0, _ => rfl
    | 1, _ => rfl
