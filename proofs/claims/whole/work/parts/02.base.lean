/-! a flat memory: row k is cell k; values; states of the small machine -/
abbrev kb_v : Type := Int32 ⊕ Option Nat
abbrev kb_M : Type := Nat → Nat → Int32
abbrev kb_T : Type := Nat × List (Option kb_v) × List kb_v × kb_M
abbrev kb_S : Type := Nat × kb_T
abbrev kb_R : Type := Option kb_v × kb_M
abbrev kb_O : Type := kb_T ⊕ (Bool × kb_R) ⊕ (Nat × List kb_v × kb_T) ⊕ (Bool × kb_T × kb_T) ⊕ (Bool × kb_T)
/-- a cell's shape: an array (kind, length, its references) or an object (number of its kind, its fields: a number, or a reference that stays) -/
abbrev kb_sh : Type := (Nat × Nat × List (Option Nat)) ⊕ (Nat × List (Option (Option Nat)))
/-- a method: name, bytes, locals, answer, number of its kind, parameters, static, frames, words of locals, instructions -/
abbrev kb_m : Type := MethodName × ByteArray × Nat × Option FieldType × Nat × Nat × Bool × Nat × Nat × List (Nat × Jvm.ClassFile.Instr)
def kb_ro (M : kb_M) (k : Nat) (r : Nat → Int32) : kb_M := fun a => if a = k then r else M a
def kb_up (M : kb_M) (k i : Nat) (x : Int32) : kb_M := kb_ro M k (upd (M k) i x)
def kb_lk {α : Type} : List (Nat × α) → Nat → Option α
  | [], _ => none
  | (a, b) :: l, n => cond (Nat.beq a n) (some b) (kb_lk l n)
theorem kb_lk_mem {α : Type} : ∀ {l : List (Nat × α)} {n : Nat} {b : α}, kb_lk l n = some b → (n, b) ∈ l := by
  intro l
  induction l with
  | nil => intro n b h; cases h
  | cons q l ih =>
    intro n b h
    obtain ⟨a, c⟩ := q
    unfold kb_lk at h
    cases hq : Nat.beq a n with
    | true =>
      rw [hq] at h
      have e := Nat.eq_of_beq_eq_true hq
      subst e
      have h : some c = some b := h
      cases h
      exact List.mem_cons_self
    | false =>
      rw [hq] at h
      exact List.mem_cons_of_mem _ (ih h)
def kb_len (i : Jvm.ClassFile.Instr) : Nat := match i with
  | .bipush _ => 2
  | .sipush _ => 3
  | .ldc _ => 2
  | .iload _ => 2
  | .aload _ => 2
  | .istore _ => 2
  | .astore _ => 2
  | .iinc _ _ => 3
  | .goto _ => 3
  | .ifCond _ _ => 3
  | .if_icmp _ _ => 3
  | .ifnull _ => 3
  | .ifnonnull _ => 3
  | .getfield _ => 3
  | .putfield _ => 3
  | .invokevirtual _ => 3
  | .invokestatic _ => 3
  | _ => 1
