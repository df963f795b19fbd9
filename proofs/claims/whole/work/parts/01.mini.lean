/-! ===== a small machine: values, rows of code, what they do ===== -/
abbrev mx_V : Type := Int32 ⊕ (Int64 ⊕ Option Nat)
abbrev mx_L : Type := List (Option mx_V)
/-- an instruction, its pc, the next row, two numbers, a constant, the rows of a switch -/
abbrev mx_I : Type := Instr × Nat × Nat × Nat × Nat × Int32 × List (Int32 × Nat)
abbrev mx_T : Type := Lean.RArray mx_I
noncomputable def mx_get (t : mx_T) (n : Nat) : mx_I := Lean.RArray.rec (fun x => x) (fun p _ _ l r => cond (Nat.blt n p) l r) t
noncomputable def mx_all (q : mx_I → Bool) (t : mx_T) : Bool := Lean.RArray.rec (fun x => q x) (fun _ _ _ l r => l && r) t
theorem mx_all_get {q : mx_I → Bool} (t : mx_T) (n : Nat) (h : mx_all q t = true) : q (mx_get t n) = true := by
  induction t with
  | leaf x => exact h
  | branch p l r hl hr =>
    have h2 : (mx_all q l && mx_all q r) = true := h
    rw [Bool.and_eq_true] at h2
    show q (cond (Nat.blt n p) (mx_get l n) (mx_get r n)) = true
    cases Nat.blt n p
    · exact hr h2.2
    · exact hl h2.1
def mx_at : mx_L → Nat → Option mx_V
  | [], _ => none
  | x :: _, 0 => x
  | _ :: L, n + 1 => mx_at L n
/-- a long whose second half goes is gone -/
def mx_kl (L : mx_L) (i : Nat) : mx_L := match i with
  | 0 => L
  | i + 1 => match mx_at L i with
    | some (.inr (.inl _)) => L.set i none
    | _ => L
def mx_s1 (L : mx_L) (i : Nat) (v : mx_V) : mx_L := (mx_kl L i).set i (some v)
def mx_s2 (L : mx_L) (i : Nat) (v : mx_V) : mx_L := ((mx_kl L i).set i (some v)).set (i + 1) none
/-- only the places of a set are kept -/
def mx_mk : Nat → mx_L → mx_L
  | _, [] => []
  | m, x :: L => (if m % 2 = 1 then x else none) :: mx_mk (m / 2) L
/-- a method's locals as it begins -/
def mx_en : Nat → List mx_V → mx_L
  | n, [] => List.replicate n none
  | n, .inl x :: l => some (.inl x) :: mx_en (n - 1) l
  | n, .inr (.inl x) :: l => some (.inr (.inl x)) :: none :: mx_en (n - 2) l
  | n, .inr (.inr x) :: l => some (.inr (.inr x)) :: mx_en (n - 1) l
section MxPure
variable {β : Type}
def mx_li (L : mx_L) (a : Nat) (K : Int32 → Option β) : Option β := match mx_at L a with
  | some (.inl x) => K x
  | _ => none
def mx_ll (L : mx_L) (a : Nat) (K : Int64 → Option β) : Option β := match mx_at L a with
  | some (.inr (.inl x)) => K x
  | _ => none
def mx_la (L : mx_L) (a : Nat) (K : Option Nat → Option β) : Option β := match mx_at L a with
  | some (.inr (.inr x)) => K x
  | _ => none
def mx_1i (st : List mx_V) (K : Int32 → List mx_V → Option β) : Option β := match st with
  | .inl x :: st => K x st
  | _ => none
def mx_1l (st : List mx_V) (K : Int64 → List mx_V → Option β) : Option β := match st with
  | .inr (.inl x) :: st => K x st
  | _ => none
def mx_1a (st : List mx_V) (K : Option Nat → List mx_V → Option β) : Option β := match st with
  | .inr (.inr x) :: st => K x st
  | _ => none
/-- what touches the locals and the stack alone, and goes on behind itself -/
def mx_pu (i : Instr) (a : Nat) (v : Int32) (L : mx_L) (st : List mx_V) (K : mx_L → List mx_V → Option β) : Option β := match i with
  | .iconst _ => K L (.inl v :: st)
  | .bipush _ => K L (.inl v :: st)
  | .sipush _ => K L (.inl v :: st)
  | .ldc _ => match a with
    | 0 => K L (.inl v :: st)
    | a + 1 => K L (.inr (.inr (some (a + 1))) :: st)
  | .ldc_w _ => K L (.inl v :: st)
  | .ldc2_w _ => K L (.inr (.inl v.toInt64) :: st)
  | .lconst _ => K L (.inr (.inl v.toInt64) :: st)
  | .aconst_null => K L (.inr (.inr none) :: st)
  | .iload _ => mx_li L a fun x => K L (.inl x :: st)
  | .iload_n _ => mx_li L a fun x => K L (.inl x :: st)
  | .lload _ => mx_ll L a fun x => K L (.inr (.inl x) :: st)
  | .lload_n _ => mx_ll L a fun x => K L (.inr (.inl x) :: st)
  | .aload _ => mx_la L a fun x => K L (.inr (.inr x) :: st)
  | .aload_n _ => mx_la L a fun x => K L (.inr (.inr x) :: st)
  | .istore _ => mx_1i st fun x st => K (mx_s1 L a (.inl x)) st
  | .istore_n _ => mx_1i st fun x st => K (mx_s1 L a (.inl x)) st
  | .lstore _ => mx_1l st fun x st => K (mx_s2 L a (.inr (.inl x))) st
  | .lstore_n _ => mx_1l st fun x st => K (mx_s2 L a (.inr (.inl x))) st
  | .astore _ => mx_1a st fun x st => K (mx_s1 L a (.inr (.inr x))) st
  | .astore_n _ => mx_1a st fun x st => K (mx_s1 L a (.inr (.inr x))) st
  | .iinc _ _ => mx_li L a fun x => K (mx_s1 L a (.inl (x + v))) st
  | .iadd => mx_1i st fun y st => mx_1i st fun x st => K L (.inl (x + y) :: st)
  | .isub => mx_1i st fun y st => mx_1i st fun x st => K L (.inl (x - y) :: st)
  | .imul => mx_1i st fun y st => mx_1i st fun x st => K L (.inl (x * y) :: st)
  | .iand => mx_1i st fun y st => mx_1i st fun x st => K L (.inl (x &&& y) :: st)
  | .ior => mx_1i st fun y st => mx_1i st fun x st => K L (.inl (x ||| y) :: st)
  | .ixor => mx_1i st fun y st => mx_1i st fun x st => K L (.inl (x ^^^ y) :: st)
  | .ishl => mx_1i st fun y st => mx_1i st fun x st => K L (.inl (x <<< (y &&& 31)) :: st)
  | .ishr => mx_1i st fun y st => mx_1i st fun x st => K L (.inl (x >>> (y &&& 31)) :: st)
  | .iushr => mx_1i st fun y st => mx_1i st fun x st => K L (.inl (x.toUInt32 >>> (y.toUInt32 &&& Int32.toUInt32 31)).toInt32 :: st)
  | .idiv => mx_1i st fun y st => mx_1i st fun x st => if y = 0 then none else K L (.inl (x / y) :: st)
  | .irem => mx_1i st fun y st => mx_1i st fun x st => if y = 0 then none else K L (.inl (x - x / y * y) :: st)
  | .ineg => mx_1i st fun x st => K L (.inl (-x) :: st)
  | .ladd => mx_1l st fun y st => mx_1l st fun x st => K L (.inr (.inl (x + y)) :: st)
  | .lmul => mx_1l st fun y st => mx_1l st fun x st => K L (.inr (.inl (x * y)) :: st)
  | .lcmp => mx_1l st fun y st => mx_1l st fun x st => K L (.inl (lg_cmp x y) :: st)
  | .i2l => mx_1i st fun x st => K L (.inr (.inl x.toInt64) :: st)
  | .l2i => mx_1l st fun x st => K L (.inl x.toInt32 :: st)
  | .i2b => mx_1i st fun x st => K L (.inl x.toInt8.toInt32 :: st)
  | .i2s => mx_1i st fun x st => K L (.inl x.toInt16.toInt32 :: st)
  | .i2c => mx_1i st fun x st => K L (.inl (x.toUInt32 % 65536).toInt32 :: st)
  | .dup => match st with
    | .inl x :: st => K L (.inl x :: .inl x :: st)
    | .inr (.inr x) :: st => K L (.inr (.inr x) :: .inr (.inr x) :: st)
    | _ => none
  | .dup2 => match st with
    | .inl y :: .inr (.inr x) :: st => K L (.inl y :: .inr (.inr x) :: .inl y :: .inr (.inr x) :: st)
    | _ => none
  | .pop => match st with
    | .inl _ :: st => K L st
    | .inr (.inr _) :: st => K L st
    | _ => none
  | _ => none
def mx_br (c : ClassFile.Cond) (x y : Int32) (A B : β) : β := match c with
  | .eq => if x = y then A else B
  | .ne => if x = y then B else A
  | .lt => if x < y then A else B
  | .ge => if x < y then B else A
  | .gt => if y < x then A else B
  | .le => if y < x then B else A
def mx_sw (x : Int32) (K : Nat → β) (d : β) : List (Int32 × Nat) → β
  | [] => d
  | (y, t) :: l => if x = y then K t else mx_sw x K d l
/-- so many arguments off the stack -/
def mx_tk : Nat → List mx_V → List mx_V → (List mx_V → List mx_V → Option β) → Option β
  | 0, as, st, K => K as st
  | _ + 1, _, [], _ => none
  | n + 1, as, x :: st, K => mx_tk n (x :: as) st K
def mx_rt (b : Nat) (x : Int32) (r : Option β) : Option β := match b with
  | 0 => r
  | 1 => if x = 0 then r else if x = 1 then r else none
  | 2 => if x.toUInt32.toUInt16.toUInt32.toInt32 = x then r else none
  | _ => if x.toInt8.toInt32 = x then r else none
end MxPure
abbrev mx_F (σ : Type) : Type := Nat → Nat → mx_L → List mx_V → σ → Option (Option mx_V × σ)
abbrev mx_H (σ : Type) : Type := mx_I → List mx_V → σ → (List mx_V → σ → Option (Option mx_V × σ)) → Option (Option mx_V × σ)
/-- the words of a stack -/
def mx_ct : List mx_V → Nat
  | [] => 0
  | .inr (.inl _) :: l => mx_ct l + 2
  | _ :: l => mx_ct l + 1
/-- one row: f goes on, g goes on behind a cut, h is a call -/
def mx_b {σ : Type} (xl : Nat → Nat) (rc : Nat → List mx_V → σ → Bool) (hop : mx_H σ) (f g h : mx_F σ) (k : Nat) (r : mx_I) (L : mx_L) (st : List mx_V) (s : σ) : Option (Option mx_V × σ) :=
  match r with
  | (i, pc, nx, a, b, v, sw) => match i with
    | .nop => g k nx (mx_mk a L) st s
    | .goto _ => f k a L st s
    | .ifCond c _ => mx_1i st fun x st => mx_br c x 0 (f k a L st s) (f k nx L st s)
    | .if_icmp c _ => mx_1i st fun y st => mx_1i st fun x st => mx_br c x y (f k a L st s) (f k nx L st s)
    | .ifnonnull _ => mx_1a st fun x st => match x with
      | none => f k nx L st s
      | some _ => f k a L st s
    | .tableswitch _ _ _ _ => mx_1i st fun x st => mx_sw x (fun t => f k t L st s) (f k a L st s) sw
    | .ireturn => match st with
      | [.inl x] => mx_rt b x (some (some (.inl x), s))
      | _ => none
    | .areturn => match st with
      | [.inr (.inr x)] => some (some (.inr (.inr x)), s)
      | _ => none
    | .return_ => match st with
      | [] => some (none, s)
      | _ => none
    | .invokevirtual _ => match b with
      | 0 => hop (i, pc, nx, a, b, v, sw) st s (fun st s => f k nx L st s)
      | b + 1 => mx_tk (b + 1) [] st fun as st => cond (rc a as s && Nat.ble (mx_ct st) 8) ((h a 0 (mx_en (xl a) as) [] s).bind fun q => f k nx L (q.1.toList ++ st) q.2) none
    | .invokespecial _ => match b with
      | 0 => hop (i, pc, nx, a, b, v, sw) st s (fun st s => f k nx L st s)
      | b + 1 => mx_tk (b + 1) [] st fun as st => cond (rc a as s && Nat.ble (mx_ct st) 8) ((h a 0 (mx_en (xl a) as) [] s).bind fun q => f k nx L (q.1.toList ++ st) q.2) none
    | .invokestatic _ => match b with
      | 0 => hop (i, pc, nx, a, b, v, sw) st s (fun st s => f k nx L st s)
      | b + 1 => mx_tk (b + 1) [] st fun as st => cond (rc a as s && Nat.ble (mx_ct st) 8) ((h a 0 (mx_en (xl a) as) [] s).bind fun q => f k nx L (q.1.toList ++ st) q.2) none
    | .getfield _ => hop (i, pc, nx, a, b, v, sw) st s (fun st s => f k nx L st s)
    | .putfield _ => hop (i, pc, nx, a, b, v, sw) st s (fun st s => f k nx L st s)
    | .getstatic _ => hop (i, pc, nx, a, b, v, sw) st s (fun st s => f k nx L st s)
    | .iaload => hop (i, pc, nx, a, b, v, sw) st s (fun st s => f k nx L st s)
    | .iastore => hop (i, pc, nx, a, b, v, sw) st s (fun st s => f k nx L st s)
    | .baload => hop (i, pc, nx, a, b, v, sw) st s (fun st s => f k nx L st s)
    | .bastore => hop (i, pc, nx, a, b, v, sw) st s (fun st s => f k nx L st s)
    | .caload => hop (i, pc, nx, a, b, v, sw) st s (fun st s => f k nx L st s)
    | .castore => hop (i, pc, nx, a, b, v, sw) st s (fun st s => f k nx L st s)
    | .laload => hop (i, pc, nx, a, b, v, sw) st s (fun st s => f k nx L st s)
    | .lastore => hop (i, pc, nx, a, b, v, sw) st s (fun st s => f k nx L st s)
    | .aaload => hop (i, pc, nx, a, b, v, sw) st s (fun st s => f k nx L st s)
    | .aastore => hop (i, pc, nx, a, b, v, sw) st s (fun st s => f k nx L st s)
    | .arraylength => hop (i, pc, nx, a, b, v, sw) st s (fun st s => f k nx L st s)
    | .new _ => hop (i, pc, nx, a, b, v, sw) st s (fun st s => f k nx L st s)
    | .newarray _ => hop (i, pc, nx, a, b, v, sw) st s (fun st s => f k nx L st s)
    | .anewarray _ => hop (i, pc, nx, a, b, v, sw) st s (fun st s => f k nx L st s)
    | i => mx_pu i a v L st (fun L st => f k nx L st s)
noncomputable def mx_ex {σ : Type} (cd : Nat → mx_T) (xl : Nat → Nat) (rc : Nat → List mx_V → σ → Bool) (hop : mx_H σ) : Nat → mx_F σ
  | 0 => fun _ _ _ _ _ => none
  | n + 1 => fun k j L st s => mx_b xl rc hop (mx_ex cd xl rc hop n) (mx_ex cd xl rc hop n) (mx_ex cd xl rc hop n) k (mx_get (cd k) j) L st s
