/-! the small machine over the flat memory: one step, a run, what a run reaches; the walk of a stretch by computing -/
def kb_nx (_y pc : Nat) (lv : List (Option kb_v)) (st : List kb_v) (M : kb_M) : Option kb_O := some (.inl (pc, lv, st, M))
def kb_as (b : Bool) (_y pc : Nat) (lv : List (Option kb_v)) (st : List kb_v) (M : kb_M) : Option kb_O := some (.inr (.inr (.inr (.inr (b, pc, lv, st, M)))))
def kb_tg (pc : Nat) (off : Int) : Option Nat := match (pc : Int) + off with
  | .ofNat t => some t
  | .negSucc _ => none
theorem kb_tg_eq {pc : Nat} {off : Int} {t : Nat} (h : kb_tg pc off = some t) : (pc : Int) + off = (t : Int) := by
  unfold kb_tg at h
  split at h
  next a ha => rw [ha, Option.some.inj h]; rfl
  next => cases h
def kb_in (i : Int32) (n : Nat) : Bool := !(decide (i < 0) || Nat.ble n i.toNatClampNeg)
theorem kb_in_vp {i : Int32} {n : Nat} (h : kb_in i n = true) : vp_in i n := by
  intro q
  unfold kb_in at h
  rcases q with q | q
  · rw [decide_eq_true q] at h
    cases h
  · rw [Nat.ble_eq_true_of_le q, Bool.or_true] at h
    cases h
def kb_b1 (f : Int32 → Bool) (off : Int) (_y pc : Nat) (lv : List (Option kb_v)) (st : List kb_v) (M : kb_M) : Option kb_O := match st with
  | .inl a :: r => match kb_tg pc off with
    | some t => some (.inr (.inr (.inr (.inl (f a, (t, lv, r, M), (pc + 3, lv, r, M))))))
    | none => none
  | _ => none
def kb_b2 (f : Int32 → Int32 → Bool) (off : Int) (_y pc : Nat) (lv : List (Option kb_v)) (st : List kb_v) (M : kb_M) : Option kb_O := match st with
  | .inl b :: .inl a :: r => match kb_tg pc off with
    | some t => some (.inr (.inr (.inr (.inl (f a b, (t, lv, r, M), (pc + 3, lv, r, M))))))
    | none => none
  | _ => none
def kb_a2 (f : Int32 → Int32 → Int32) (y pc : Nat) (lv : List (Option kb_v)) (st : List kb_v) (M : kb_M) : Option kb_O := match st with
  | .inl b :: .inl a :: r => kb_nx y (pc + 1) lv (.inl (f a b) :: r) M
  | _ => none
def kb_d2 (f : Int32 → Int32 → Int32) (y pc : Nat) (lv : List (Option kb_v)) (st : List kb_v) (M : kb_M) : Option kb_O := match st with
  | .inl b :: .inl a :: r => kb_as (!(b == 0)) y (pc + 1) lv (.inl (f a b) :: r) M
  | _ => none
def kb_li (k y pc : Nat) (lv : List (Option kb_v)) (st : List kb_v) (M : kb_M) : Option kb_O := match lv[k]? with
  | some (some (.inl x)) => kb_nx y pc lv (.inl x :: st) M
  | _ => none
def kb_la (k y pc : Nat) (lv : List (Option kb_v)) (st : List kb_v) (M : kb_M) : Option kb_O := match lv[k]? with
  | some (some (.inr x)) => kb_nx y pc lv (.inr x :: st) M
  | _ => none
def kb_si (k y pc : Nat) (lv : List (Option kb_v)) (st : List kb_v) (M : kb_M) : Option kb_O := match st, lv[k]? with
  | .inl x :: r, some _ => kb_nx y pc (lv.set k (some (.inl x))) r M
  | _, _ => none
def kb_sa (k y pc : Nat) (lv : List (Option kb_v)) (st : List kb_v) (M : kb_M) : Option kb_O := match st, lv[k]? with
  | .inr x :: r, some _ => kb_nx y pc (lv.set k (some (.inr x))) r M
  | _, _ => none
def kb_ii (k : Nat) (n : Int) (y pc : Nat) (lv : List (Option kb_v)) (st : List kb_v) (M : kb_M) : Option kb_O := match lv[k]? with
  | some (some (.inl x)) => kb_nx y (pc + 3) (lv.set k (some (.inl (x + Int32.ofInt n)))) st M
  | _ => none
def kb_lc (x y pc : Nat) (lv : List (Option kb_v)) (st : List kb_v) (M : kb_M) : Option kb_O := match kb_kc y x with
  | some v => kb_nx y (pc + 2) lv (.inl v :: st) M
  | none => none
def kb_gt (off : Int) (y pc : Nat) (lv : List (Option kb_v)) (st : List kb_v) (M : kb_M) : Option kb_O := match kb_tg pc off with
  | some t => kb_nx y t lv st M
  | none => none
def kb_nu (off : Int) (y pc : Nat) (lv : List (Option kb_v)) (st : List kb_v) (M : kb_M) : Option kb_O := match st with
  | .inr none :: r => kb_gt off y pc lv r M
  | .inr (some _) :: r => kb_nx y (pc + 3) lv r M
  | _ => none
def kb_nn (off : Int) (y pc : Nat) (lv : List (Option kb_v)) (st : List kb_v) (M : kb_M) : Option kb_O := match st with
  | .inr (some _) :: r => kb_gt off y pc lv r M
  | .inr none :: r => kb_nx y (pc + 3) lv r M
  | _ => none
def kb_po (y pc : Nat) (lv : List (Option kb_v)) (st : List kb_v) (M : kb_M) : Option kb_O := match st with
  | _ :: r => kb_nx y (pc + 1) lv r M
  | _ => none
def kb_du (y pc : Nat) (lv : List (Option kb_v)) (st : List kb_v) (M : kb_M) : Option kb_O := match st with
  | a :: r => kb_nx y (pc + 1) lv (a :: a :: r) M
  | _ => none
def kb_du2 (y pc : Nat) (lv : List (Option kb_v)) (st : List kb_v) (M : kb_M) : Option kb_O := match st with
  | a :: b :: r => kb_nx y (pc + 1) lv (a :: b :: a :: b :: r) M
  | _ => none
def kb_al (y pc : Nat) (lv : List (Option kb_v)) (st : List kb_v) (M : kb_M) : Option kb_O := match st with
  | .inr (some c) :: r => match kb_cel c with
    | some (.inl (_, n, _)) => kb_nx y (pc + 1) lv (.inl (Int32.ofNat n) :: r) M
    | _ => none
  | _ => none
/-- a load from an array of kind t (0: ints, 1: booleans) -/
def kb_ld (t y pc : Nat) (lv : List (Option kb_v)) (st : List kb_v) (M : kb_M) : Option kb_O := match st with
  | .inl i :: .inr (some c) :: r => match kb_cel c with
    | some (.inl (u, n, _)) => match Nat.beq u t with
      | true => kb_as (kb_in i n) y (pc + 1) lv (.inl (M c i.toNatClampNeg) :: r) M
      | false => none
    | _ => none
  | _ => none
def kb_ar (y pc : Nat) (lv : List (Option kb_v)) (st : List kb_v) (M : kb_M) : Option kb_O := match st with
  | .inl i :: .inr (some c) :: r => match kb_cel c with
    | some (.inl (u, n, rs)) => match Nat.ble 2 u with
      | true => kb_as (kb_in i n) y (pc + 1) lv (.inr (rs.getD i.toNatClampNeg none) :: r) M
      | false => none
    | _ => none
  | _ => none
def kb_si0 (y pc : Nat) (lv : List (Option kb_v)) (st : List kb_v) (M : kb_M) : Option kb_O := match st with
  | .inl x :: .inl i :: .inr (some c) :: r => match kb_cel c with
    | some (.inl (u, n, _)) => match Nat.beq u 0 with
      | true => kb_as (kb_in i n) y (pc + 1) lv r (kb_up M c i.toNatClampNeg x)
      | false => none
    | _ => none
  | _ => none
def kb_sz1 (y pc : Nat) (lv : List (Option kb_v)) (st : List kb_v) (M : kb_M) : Option kb_O := match st with
  | .inl x :: .inl i :: .inr (some c) :: r => match kb_cel c with
    | some (.inl (u, n, _)) => match Nat.beq u 1 with
      | true => kb_as (kb_in i n && (x == 0 || x == 1)) y (pc + 1) lv r (kb_up M c i.toNatClampNeg x)
      | false => none
    | _ => none
  | _ => none
def kb_gf (x y pc : Nat) (lv : List (Option kb_v)) (st : List kb_v) (M : kb_M) : Option kb_O := match st with
  | .inr (some c) :: r => match kb_fl y x with
    | some (ci, k, _) => match kb_cel c with
      | some (.inr (cj, fs)) => match Nat.beq cj ci, fs[k]? with
        | true, some none => kb_nx y (pc + 3) lv (.inl (M c k) :: r) M
        | true, some (some q) => kb_nx y (pc + 3) lv (.inr q :: r) M
        | _, _ => none
      | _ => none
    | none => none
  | _ => none
def kb_pf (x y pc : Nat) (lv : List (Option kb_v)) (st : List kb_v) (M : kb_M) : Option kb_O := match st with
  | .inl v :: .inr (some c) :: r => match kb_fl y x with
    | some (ci, k, t) => match kb_cel c with
      | some (.inr (cj, fs)) => match Nat.beq cj ci, fs[k]?, t with
        | true, some none, 1 => kb_nx y (pc + 3) lv r (kb_up M c k v)
        | true, some none, 2 => kb_as (v == 0 || v == 1) y (pc + 3) lv r (kb_up M c k v)
        | _, _, _ => none
      | _ => none
    | none => none
  | _ => none
/-- is there room for a call of z out of y, with the operands r left? -/
def kb_ok (y z : Nat) (r : List kb_v) : Bool := Nat.ble (kb_fr z + 1) (kb_fr y) && Nat.ble (8 + (kb_mL z + 11) + kb_lo z) (kb_lo y) && Nat.ble r.length 8
def kb_iv (x y pc : Nat) (lv : List (Option kb_v)) (st : List kb_v) (M : kb_M) : Option kb_O := match kb_ca y x with
  | some z => match st.drop (kb_np z) with
    | .inr (some c) :: r => match kb_cel c with
      | some (.inr (cj, _)) => match Nat.beq cj (kb_o z), kb_ok y z r with
        | true, true => some (.inr (.inr (.inl (z, .inr (some c) :: (st.take (kb_np z)).reverse, (pc + 3, lv, r, M)))))
        | _, _ => none
      | _ => none
    | _ => none
  | none => none
def kb_cpo (sp dp n : Int32) (n0 n1 : Nat) : Bool := !(decide (sp < 0)) && !(decide (dp < 0)) && !(decide (n < 0)) && Nat.ble (sp.toNatClampNeg + n.toNatClampNeg) n0 && Nat.ble (dp.toNatClampNeg + n.toNatClampNeg) n1
def kb_cp (y pc : Nat) (lv : List (Option kb_v)) (st : List kb_v) (M : kb_M) : Option kb_O := match st with
  | .inl n :: .inl dp :: .inr (some d) :: .inl sp :: .inr (some a) :: r => match kb_cel a, kb_cel d with
    | some (.inl (t0, n0, _)), some (.inl (t1, n1, _)) => match Nat.beq t0 0, Nat.beq t1 0 with
      | true, true => kb_as (kb_cpo sp dp n n0 n1) y (pc + 3) lv r (kb_ro M d (va_cpy (M a) (M d) sp.toNatClampNeg dp.toNatClampNeg n.toNatClampNeg))
      | _, _ => none
    | _, _ => none
  | _ => none
def kb_mi (y pc : Nat) (lv : List (Option kb_v)) (st : List kb_v) (M : kb_M) : Option kb_O := match st with
  | .inl b :: .inl a :: r => kb_nx y (pc + 3) lv (.inl (if b < a then b else a) :: r) M
  | _ => none
def kb_mx (y pc : Nat) (lv : List (Option kb_v)) (st : List kb_v) (M : kb_M) : Option kb_O := match st with
  | .inl b :: .inl a :: r => kb_nx y (pc + 3) lv (.inl (if a < b then b else a) :: r) M
  | _ => none
def kb_cs0 (z y pc : Nat) (lv : List (Option kb_v)) (st : List kb_v) (M : kb_M) : Option kb_O := match Nat.ble (kb_np z) st.length, kb_ok y z (st.drop (kb_np z)) with
  | true, true => some (.inr (.inr (.inl (z, (st.take (kb_np z)).reverse, (pc + 3, lv, st.drop (kb_np z), M)))))
  | _, _ => none
/-- a static call: of this program's, or of the library's three: min, max, arraycopy -/
def kb_is (x y pc : Nat) (lv : List (Option kb_v)) (st : List kb_v) (M : kb_M) : Option kb_O := match kb_cs y x with
  | some (.inl z) => kb_cs0 z y pc lv st M
  | some (.inr t) => match Nat.ble 1 (kb_fr y) && Nat.ble 40 (kb_lo y) && Nat.ble st.length 8, t with
    | true, 0 => kb_mi y pc lv st M
    | true, 1 => kb_mx y pc lv st M
    | true, 2 => kb_cp y pc lv st M
    | _, _ => none
  | none => none
def kb_re (y : Nat) (st : List kb_v) (M : kb_M) : Option kb_O := match kb_rt y, st with
  | some .int, [.inl v] => some (.inr (.inl (true, some (.inl v), M)))
  | some .boolean, [.inl v] => some (.inr (.inl (v == 0 || v == 1, some (.inl v), M)))
  | _, _ => none
def kb_ra (y : Nat) (st : List kb_v) (M : kb_M) : Option kb_O := match kb_rt y, st with
  | some (.object _), [.inr v] => some (.inr (.inl (true, some (.inr v), M)))
  | _, _ => none
def kb_rv (y : Nat) (st : List kb_v) (M : kb_M) : Option kb_O := match kb_rt y, st with
  | none, [] => some (.inr (.inl (true, none, M)))
  | _, _ => none
def kb_iadd (y pc : Nat) (lv : List (Option kb_v)) (st : List kb_v) (M : kb_M) : Option kb_O := match st with
  | .inl b :: .inl a :: r => kb_nx y (pc + 1) lv (.inl (a + b) :: r) M
  | _ => none
def kb_isub (y pc : Nat) (lv : List (Option kb_v)) (st : List kb_v) (M : kb_M) : Option kb_O := match st with
  | .inl b :: .inl a :: r => kb_nx y (pc + 1) lv (.inl (a - b) :: r) M
  | _ => none
def kb_imul (y pc : Nat) (lv : List (Option kb_v)) (st : List kb_v) (M : kb_M) : Option kb_O := match st with
  | .inl b :: .inl a :: r => kb_nx y (pc + 1) lv (.inl (a * b) :: r) M
  | _ => none
def kb_idiv (y pc : Nat) (lv : List (Option kb_v)) (st : List kb_v) (M : kb_M) : Option kb_O := match st with
  | .inl b :: .inl a :: r => kb_as (!(b == 0)) y (pc + 1) lv (.inl (a / b) :: r) M
  | _ => none
def kb_irem (y pc : Nat) (lv : List (Option kb_v)) (st : List kb_v) (M : kb_M) : Option kb_O := match st with
  | .inl b :: .inl a :: r => kb_as (!(b == 0)) y (pc + 1) lv (.inl (a - a / b * b) :: r) M
  | _ => none
def kb_ifeq (off : Int) (_y pc : Nat) (lv : List (Option kb_v)) (st : List kb_v) (M : kb_M) : Option kb_O := match st with
  | .inl a :: r => match kb_tg pc off with
    | some t => some (.inr (.inr (.inr (.inl (decide (a = 0), (t, lv, r, M), (pc + 3, lv, r, M))))))
    | none => none
  | _ => none
def kb_ifne (off : Int) (_y pc : Nat) (lv : List (Option kb_v)) (st : List kb_v) (M : kb_M) : Option kb_O := match st with
  | .inl a :: r => match kb_tg pc off with
    | some t => some (.inr (.inr (.inr (.inl (decide (¬ a = 0), (t, lv, r, M), (pc + 3, lv, r, M))))))
    | none => none
  | _ => none
def kb_iflt (off : Int) (_y pc : Nat) (lv : List (Option kb_v)) (st : List kb_v) (M : kb_M) : Option kb_O := match st with
  | .inl a :: r => match kb_tg pc off with
    | some t => some (.inr (.inr (.inr (.inl (decide (a < 0), (t, lv, r, M), (pc + 3, lv, r, M))))))
    | none => none
  | _ => none
def kb_ifge (off : Int) (_y pc : Nat) (lv : List (Option kb_v)) (st : List kb_v) (M : kb_M) : Option kb_O := match st with
  | .inl a :: r => match kb_tg pc off with
    | some t => some (.inr (.inr (.inr (.inl (decide (0 ≤ a), (t, lv, r, M), (pc + 3, lv, r, M))))))
    | none => none
  | _ => none
def kb_iceq (off : Int) (_y pc : Nat) (lv : List (Option kb_v)) (st : List kb_v) (M : kb_M) : Option kb_O := match st with
  | .inl b :: .inl a :: r => match kb_tg pc off with
    | some t => some (.inr (.inr (.inr (.inl (decide (a = b), (t, lv, r, M), (pc + 3, lv, r, M))))))
    | none => none
  | _ => none
def kb_icne (off : Int) (_y pc : Nat) (lv : List (Option kb_v)) (st : List kb_v) (M : kb_M) : Option kb_O := match st with
  | .inl b :: .inl a :: r => match kb_tg pc off with
    | some t => some (.inr (.inr (.inr (.inl (decide (¬ a = b), (t, lv, r, M), (pc + 3, lv, r, M))))))
    | none => none
  | _ => none
def kb_iclt (off : Int) (_y pc : Nat) (lv : List (Option kb_v)) (st : List kb_v) (M : kb_M) : Option kb_O := match st with
  | .inl b :: .inl a :: r => match kb_tg pc off with
    | some t => some (.inr (.inr (.inr (.inl (decide (a < b), (t, lv, r, M), (pc + 3, lv, r, M))))))
    | none => none
  | _ => none
def kb_icge (off : Int) (_y pc : Nat) (lv : List (Option kb_v)) (st : List kb_v) (M : kb_M) : Option kb_O := match st with
  | .inl b :: .inl a :: r => match kb_tg pc off with
    | some t => some (.inr (.inr (.inr (.inl (decide (b ≤ a), (t, lv, r, M), (pc + 3, lv, r, M))))))
    | none => none
  | _ => none
def kb_icgt (off : Int) (_y pc : Nat) (lv : List (Option kb_v)) (st : List kb_v) (M : kb_M) : Option kb_O := match st with
  | .inl b :: .inl a :: r => match kb_tg pc off with
    | some t => some (.inr (.inr (.inr (.inl (decide (b < a), (t, lv, r, M), (pc + 3, lv, r, M))))))
    | none => none
  | _ => none
def kb_icle (off : Int) (_y pc : Nat) (lv : List (Option kb_v)) (st : List kb_v) (M : kb_M) : Option kb_O := match st with
  | .inl b :: .inl a :: r => match kb_tg pc off with
    | some t => some (.inr (.inr (.inr (.inl (decide (a ≤ b), (t, lv, r, M), (pc + 3, lv, r, M))))))
    | none => none
  | _ => none
def kb_st (i : Jvm.ClassFile.Instr) (y pc : Nat) (lv : List (Option kb_v)) (st : List kb_v) (M : kb_M) : Option kb_O := match i with
  | .iconst n => kb_nx y (pc + 1) lv (.inl (Int32.ofInt n) :: st) M
  | .bipush n => kb_nx y (pc + 2) lv (.inl (Int8.ofInt n).toInt32 :: st) M
  | .sipush n => kb_nx y (pc + 3) lv (.inl (Int16.ofInt n).toInt32 :: st) M
  | .ldc x => kb_lc x y pc lv st M
  | .aconst_null => kb_nx y (pc + 1) lv (.inr none :: st) M
  | .iload_n k => kb_li k.val y (pc + 1) lv st M
  | .iload k => kb_li k y (pc + 2) lv st M
  | .aload_n k => kb_la k.val y (pc + 1) lv st M
  | .aload k => kb_la k y (pc + 2) lv st M
  | .istore_n k => kb_si k.val y (pc + 1) lv st M
  | .istore k => kb_si k y (pc + 2) lv st M
  | .astore_n k => kb_sa k.val y (pc + 1) lv st M
  | .astore k => kb_sa k y (pc + 2) lv st M
  | .iinc k n => kb_ii k n y pc lv st M
  | .pop => kb_po y pc lv st M
  | .dup => kb_du y pc lv st M
  | .dup2 => kb_du2 y pc lv st M
  | .iadd => kb_iadd y pc lv st M
  | .isub => kb_isub y pc lv st M
  | .imul => kb_imul y pc lv st M
  | .idiv => kb_idiv y pc lv st M
  | .irem => kb_irem y pc lv st M
  | .goto off => kb_gt off y pc lv st M
  | .ifCond .eq off => kb_ifeq off y pc lv st M
  | .ifCond .ne off => kb_ifne off y pc lv st M
  | .ifCond .lt off => kb_iflt off y pc lv st M
  | .ifCond .ge off => kb_ifge off y pc lv st M
  | .if_icmp .eq off => kb_iceq off y pc lv st M
  | .if_icmp .ne off => kb_icne off y pc lv st M
  | .if_icmp .lt off => kb_iclt off y pc lv st M
  | .if_icmp .ge off => kb_icge off y pc lv st M
  | .if_icmp .gt off => kb_icgt off y pc lv st M
  | .if_icmp .le off => kb_icle off y pc lv st M
  | .ifnull off => kb_nu off y pc lv st M
  | .ifnonnull off => kb_nn off y pc lv st M
  | .arraylength => kb_al y pc lv st M
  | .iaload => kb_ld 0 y pc lv st M
  | .baload => kb_ld 1 y pc lv st M
  | .aaload => kb_ar y pc lv st M
  | .iastore => kb_si0 y pc lv st M
  | .bastore => kb_sz1 y pc lv st M
  | .getfield x => kb_gf x y pc lv st M
  | .putfield x => kb_pf x y pc lv st M
  | .invokevirtual x => kb_iv x y pc lv st M
  | .invokestatic x => kb_is x y pc lv st M
  | .ireturn => kb_re y st M
  | .areturn => kb_ra y st M
  | .return_ => kb_rv y st M
  | _ => none
def kb_step (s : kb_S) : Option kb_O := match kb_ft s.1 s.2.1 with
  | some i => kb_st i s.1 s.2.1 s.2.2.1 s.2.2.2.1 s.2.2.2.2
  | none => none
def kb_en (z : Nat) (a : List kb_v) (M : kb_M) : kb_S := (z, 0, a.map some ++ List.replicate (kb_mL z - a.length) none, [], M)
def kb_pu (s : kb_S) (r : kb_R) : kb_S := (s.1, s.2.1, s.2.2.1, (match r.1 with | some v => v :: s.2.2.2.1 | none => s.2.2.2.1), r.2)
def kb_ex : Nat → kb_S → Option kb_R
  | 0, _ => none
  | n + 1, s => match kb_step s with
    | none => none
    | some (.inl t) => kb_ex n (s.1, t)
    | some (.inr (.inl (b, r))) => cond b (some r) none
    | some (.inr (.inr (.inl (z, a, t)))) => match kb_ex n (kb_en z a t.2.2.2) with
      | none => none
      | some r => kb_ex n (kb_pu (s.1, t) r)
    | some (.inr (.inr (.inr (.inl (b, t, t2))))) => cond b (kb_ex n (s.1, t)) (kb_ex n (s.1, t2))
    | some (.inr (.inr (.inr (.inr (b, t))))) => cond b (kb_ex n (s.1, t)) none
theorem kb_mono1 : ∀ (n : Nat) (s : kb_S) (r : kb_R), kb_ex n s = some r → kb_ex (n + 1) s = some r := by
  intro n
  induction n with
  | zero => intro s r h; cases h
  | succ n ih =>
    intro s r h
    rw [kb_ex] at h ⊢
    cases hs : kb_step s with
    | none => rw [hs] at h; cases h
    | some o =>
      rw [hs] at h
      rcases o with t | ⟨b, r1⟩ | ⟨z, a, t⟩ | ⟨b, t, t2⟩ | ⟨b, t⟩
      · exact ih _ r h
      · exact h
      · dsimp only at h ⊢
        cases h1 : kb_ex n (kb_en z a t.2.2.2) with
        | none => rw [h1] at h; cases h
        | some r1 =>
          rw [h1] at h
          rw [ih _ _ h1]
          exact ih _ _ h
      · cases b
        · exact ih _ r h
        · exact ih _ r h
      · cases b
        · cases h
        · exact ih _ r h
theorem kb_mono {n k : Nat} (hk : n ≤ k) {s : kb_S} {r : kb_R} (h : kb_ex n s = some r) : kb_ex k s = some r := by
  induction hk with
  | refl => exact h
  | step _ ih => exact kb_mono1 _ _ _ ih
/-- what a run reaches: sealed, so that computing stops here -/
def kb_E0 (s : kb_S) (Q : kb_R → Prop) : Prop := ∃ n r, kb_ex n s = some r ∧ Q r
theorem kb_seal : ∃ E : kb_S → (kb_R → Prop) → Prop, E = kb_E0 := ⟨_, rfl⟩
noncomputable def kb_E : kb_S → (kb_R → Prop) → Prop := Classical.choose kb_seal
theorem kb_E_eq : kb_E = kb_E0 := Classical.choose_spec kb_seal
theorem kb_E_get {s : kb_S} {Q : kb_R → Prop} (h : kb_E s Q) : ∃ n r, kb_ex n s = some r ∧ Q r := by
  rw [kb_E_eq] at h
  exact h
theorem kb_E_mk {s : kb_S} {Q : kb_R → Prop} (n : Nat) (r : kb_R) (h : kb_ex n s = some r) (hq : Q r) : kb_E s Q := by
  rw [kb_E_eq]
  exact ⟨n, r, h, hq⟩
theorem kb_E_imp {s : kb_S} {Q Q1 : kb_R → Prop} (h : kb_E s Q) (k : ∀ r, Q r → Q1 r) : kb_E s Q1 := by
  obtain ⟨n, r, h1, h2⟩ := kb_E_get h
  exact kb_E_mk n r h1 (k r h2)
theorem kb_E_nx {s : kb_S} {t : kb_T} {Q : kb_R → Prop} (hs : kb_step s = some (.inl t)) (h : kb_E (s.1, t) Q) : kb_E s Q := by
  obtain ⟨n, r, h1, h2⟩ := kb_E_get h
  exact kb_E_mk (n + 1) r (by rw [kb_ex, hs]; exact h1) h2
theorem kb_E_ret {s : kb_S} {b : Bool} {r : kb_R} {Q : kb_R → Prop} (hs : kb_step s = some (.inr (.inl (b, r)))) (hb : b = true) (h : Q r) : kb_E s Q := by
  subst hb
  exact kb_E_mk 1 r (by rw [kb_ex, hs]; rfl) h
theorem kb_E_call {s : kb_S} {t : kb_T} {z : Nat} {a : List kb_v} {Q : kb_R → Prop} (hs : kb_step s = some (.inr (.inr (.inl (z, a, t))))) (h : kb_E (kb_en z a t.2.2.2) (fun r => kb_E (kb_pu (s.1, t) r) Q)) : kb_E s Q := by
  obtain ⟨n, r, h1, h2⟩ := kb_E_get h
  obtain ⟨n2, r2, h3, h4⟩ := kb_E_get h2
  refine kb_E_mk (n + n2 + 1) r2 ?_ h4
  rw [kb_ex, hs]
  dsimp only
  rw [kb_mono (Nat.le_add_right n n2) h1]
  exact kb_mono (Nat.le_add_left n2 n) h3
theorem kb_E_br {s : kb_S} {t t2 : kb_T} {b : Bool} {Q : kb_R → Prop} (hs : kb_step s = some (.inr (.inr (.inr (.inl (b, t, t2)))))) (h1 : b = true → kb_E (s.1, t) Q) (h2 : b = false → kb_E (s.1, t2) Q) : kb_E s Q := by
  cases b
  · obtain ⟨n, r, g1, g2⟩ := kb_E_get (h2 rfl)
    exact kb_E_mk (n + 1) r (by rw [kb_ex, hs]; exact g1) g2
  · obtain ⟨n, r, g1, g2⟩ := kb_E_get (h1 rfl)
    exact kb_E_mk (n + 1) r (by rw [kb_ex, hs]; exact g1) g2
theorem kb_E_as {s : kb_S} {t : kb_T} {b : Bool} {Q : kb_R → Prop} (hs : kb_step s = some (.inr (.inr (.inr (.inr (b, t)))))) (hb : b = true) (h : kb_E (s.1, t) Q) : kb_E s Q := by
  subst hb
  obtain ⟨n, r, g1, g2⟩ := kb_E_get h
  exact kb_E_mk (n + 1) r (by rw [kb_ex, hs]; exact g1) g2
def kb_mem : List Nat → Nat → Bool
  | [], _ => false
  | a :: l, n => cond (Nat.beq a n) true (kb_mem l n)
/-- the walk of at most n steps, up to a pc of L: what is left to show -/
noncomputable def kb_wp : Nat → List Nat → Nat → Nat → List (Option kb_v) → List kb_v → kb_M → (kb_R → Prop) → Prop
  | 0, _, y, pc, lv, st, M, Q => kb_E (y, pc, lv, st, M) Q
  | n + 1, L, y, pc, lv, st, M, Q => match kb_ft y pc with
    | none => False
    | some i => match kb_st i y pc lv st M with
      | none => False
      | some (.inl (pc1, lv1, st1, M1)) => cond (kb_mem L pc1) (kb_E (y, pc1, lv1, st1, M1) Q) (kb_wp n L y pc1 lv1 st1 M1 Q)
      | some (.inr (.inl (b, r))) => b = true ∧ Q r
      | some (.inr (.inr (.inl (z, a, pc1, lv1, st1, M1)))) => kb_E (kb_en z a M1) (fun r => match r with
        | (some v, M2) => cond (kb_mem L pc1) (kb_E (y, pc1, lv1, v :: st1, M2) Q) (kb_wp n L y pc1 lv1 (v :: st1) M2 Q)
        | (none, M2) => cond (kb_mem L pc1) (kb_E (y, pc1, lv1, st1, M2) Q) (kb_wp n L y pc1 lv1 st1 M2 Q))
      | some (.inr (.inr (.inr (.inl (b, (pc1, lv1, st1, M1), (pc2, lv2, st2, M2)))))) => (b = true → cond (kb_mem L pc1) (kb_E (y, pc1, lv1, st1, M1) Q) (kb_wp n L y pc1 lv1 st1 M1 Q)) ∧ (b = false → cond (kb_mem L pc2) (kb_E (y, pc2, lv2, st2, M2) Q) (kb_wp n L y pc2 lv2 st2 M2 Q))
      | some (.inr (.inr (.inr (.inr (b, pc1, lv1, st1, M1))))) => b = true ∧ cond (kb_mem L pc1) (kb_E (y, pc1, lv1, st1, M1) Q) (kb_wp n L y pc1 lv1 st1 M1 Q)
theorem kb_cd {b : Bool} {P R : Prop} (h : cond b P R) : (b = true ∧ P) ∨ (b = false ∧ R) := by
  cases b
  · exact Or.inr ⟨rfl, h⟩
  · exact Or.inl ⟨rfl, h⟩
theorem kb_go : ∀ (n : Nat) (L : List Nat) {y pc : Nat} {lv : List (Option kb_v)} {st : List kb_v} {M : kb_M} {Q : kb_R → Prop}, kb_wp n L y pc lv st M Q → kb_E (y, pc, lv, st, M) Q := by
  intro n
  induction n with
  | zero => intro L y pc lv st M Q h; exact h
  | succ n ih =>
    intro L y pc lv st M Q h
    have K : ∀ {b : Bool} {pc1 : Nat} {lv1 : List (Option kb_v)} {st1 : List kb_v} {M1 : kb_M}, cond b (kb_E (y, pc1, lv1, st1, M1) Q) (kb_wp n L y pc1 lv1 st1 M1 Q) → kb_E (y, pc1, lv1, st1, M1) Q := by
      intro b pc1 lv1 st1 M1 h1
      rcases kb_cd h1 with ⟨-, h2⟩ | ⟨-, h2⟩
      · exact h2
      · exact ih L h2
    rw [kb_wp] at h
    cases hi : kb_ft y pc with
    | none => rw [hi] at h; exact h.elim
    | some i =>
      rw [hi] at h
      dsimp only at h
      have hs : kb_step (y, pc, lv, st, M) = kb_st i y pc lv st M := by
        unfold kb_step
        dsimp only
        rw [hi]
      cases ho : kb_st i y pc lv st M with
      | none => rw [ho] at h; exact h.elim
      | some o =>
        rw [ho] at h hs
        rcases o with ⟨pc1, lv1, st1, M1⟩ | ⟨b, r1⟩ | ⟨z, a, pc1, lv1, st1, M1⟩ | ⟨b, ⟨pc1, lv1, st1, M1⟩, pc2, lv2, st2, M2⟩ | ⟨b, pc1, lv1, st1, M1⟩
        · exact kb_E_nx hs (K h)
        · exact kb_E_ret hs h.1 h.2
        · refine kb_E_call hs (kb_E_imp h (fun r hr => ?_))
          obtain ⟨v, M2⟩ := r
          cases v with
          | none => exact K hr
          | some v => exact K hr
        · exact kb_E_br hs (fun q => K (h.1 q)) (fun q => K (h.2 q))
        · exact kb_E_as hs h.1 (K h.2)
/-- a call's contract, then the rest -/
theorem kb_E_then {s : kb_S} {Q Q1 : kb_R → Prop} (h : kb_E s Q1) (k : ∀ v M, Q1 (v, M) → Q (v, M)) : kb_E s Q := kb_E_imp h (fun r hr => k r.1 r.2 hr)
